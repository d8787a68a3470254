/-! The reference does what S say: print, if, while. -/
theorem gs_print {t : Int} {v0 : Mem} {u : Nat → Int} {n z dp : Nat} {G : Fn} {tx : Nat → Int} {cl : XC} {F D sl : Nat} {rt : Int} {e : Jvm.Term} {P : List Fr} {Y : List TyR} {ex lo nlo n1 d : Nat} {L : Sc} {J : Jb} {ρ : Rho} {v : Mem} {X0 : Int} {Q : Int → Mem → Prop} (hn : n ≤ 3000) (htx : ∀ a, a < n → v0 40 a = tx a ∧ -128 ≤ tx a ∧ tx a < 128) (hG : FTy v0 G) (we : wfE (kd u n) false e) (he : HRe t v0 u n z dp G tx cl F D e) (hF : P.length = F) (h : RX v0 n z dp 0 J (P ++ [(Y, ex, [])]) ρ v) (hL : Y.map (fun x => x.2) = L.map (fun x => x.2)) (hsl : Y.length + ex = sl) (hlo : lo < 300) (e49 : v0 49 lo = 6) (e52 : v0 52 lo = X0) (hr : RN2 v0 u n G L e nlo n1 X0) (hn1 : n1 ≤ 3300) (nf : nfE u n G L e = []) (tf : tfE u n G L [] e = []) (hK : rK ρ + sgn e ≤ 40 * rN ρ) (hT : (tmps P).length + tdE 0 e ≤ 80 * (F + 1)) (hd : D + 2 * hgt e ≤ d) (hq : KRk v0 n z dp P sl L rt Q (bES (evE u n G tx z cl (flat P).length L e (flat (P ++ [(Y, ex, [])])) ρ) (fun q ρ1 => if tyE u n G L e = 0 then tlE (flat (P ++ [(Y, ex, [])])) (dcl (g2 q 0).2.1) (dch (g2 q 0).2.1) ρ1 else tlE (flat (P ++ [(Y, ex, [])])) (g2 q 0).2.2.toNat (fun j => bt tx (rB ρ1) ((g2 q 0).2.1.toNat + j)) ρ1))) (hd1 : 3 ≤ d) : RR t (d + 1) 253 [(2, 38), (0, (lo : Int))] v Q := by
  have nl : 0 ≤ (lo : Int) ∧ (lo : Int) < 300 := ⟨by omega, by omega⟩
  have hX : tmps (P ++ [(Y, ex, [])]) = tmps P := by rw [tmps_1, List.append_nil]
  refine w_253 ⟨nl, nl, ?_⟩
  rw [Int.toNat_natCast, h.fx (c := 52) (by decide) (by decide), h.fx (c := 49) (by decide) (by decide), e52, e49]
  refine he P Y [] ex L J ρ v nlo n1 X0 d _ hF h hL hr hn1 nf tf hK (by rw [hX]; exact hT) hd (hq.toE (fun x ρ1 J1 v1 er hk h1 => ?_))
  obtain ⟨⟨p1, p2, p3⟩, -⟩ := h1.pop1
  obtain ⟨d', rfl⟩ : ∃ d', d = d' + 2 := ⟨d - 2, by omega⟩
  have p3 : rrw J1 n x (tyE u n G L e) (v1 66 (tmps P).length) (v1 67 (tmps P).length) (v1 68 (tmps P).length) := p3
  refine ⟨fun c => absurd c (by decide), fun _ => ⟨fun c => absurd c (by decide), fun _ => ⟨nl, fun c => absurd c (by decide), fun _ => w_253_133 ⟨fun c => absurd c (by decide), fun _ => ⟨fun c => absurd c (by decide), fun _ => w_253_194 ⟨fun _ => ⟨nl, ?_⟩, fun c => absurd rfl c⟩⟩⟩⟩⟩⟩
  rw [Int.toNat_natCast, h1.fx (c := 52) (by decide) (by decide), e52]
  refine istx_rr h1 hL hG _ e (Nat.lt_succ_self _) we nlo n1 X0 hr hn1 nf ?_
  have key : ∀ (m : Nat) (g : Nat → Int), ((tyE u n G L e = 0 ∧ m = dcl x.2.1 ∧ g = dch x.2.1) ∨ (tyE u n G L e = 1 ∧ m = x.2.2.toNat ∧ g = fun j => bt tx (rB ρ1) (x.2.1.toNat + j))) → KRk v0 n z dp P sl L rt Q (tlE (flat (P ++ [(Y, ex, [])])) m g ρ1) → RR t (d' + 2) 255 [(2, 38), (0, tyE u n G L e)] v1 (fun x2 v2 => (x2 = 0 → ((0 : Int) = 0 ∨ (0 : Int) = 1) ∧ Q 0 v2) ∧ (¬ x2 = 0 → ((6 : Int) = 5 → (((1 : Int) = 0 ∨ (1 : Int) = 1) ∧ ((0 ≤ (w32 ((v2 38 52) - 1)) ∧ (w32 ((v2 38 52) - 1)) < 1500) ∧ ((0 ≤ (w32 ((v2 38 52) - 1)) ∧ (w32 ((v2 38 52) - 1)) < 1500) ∧ ((0 ≤ (w32 ((v2 38 52) - 1)) ∧ (w32 ((v2 38 52) - 1)) < 1500) ∧ (((1 : Int) = 0 ∨ (1 : Int) = 1) ∧ Q 1 (up (up (up (up (up v2 38 52 (w32 ((v2 38 52) - 1))) 38 78 1) 38 79 (v2 66 (Int.toNat (w32 ((v2 38 52) - 1))))) 38 80 (v2 67 (Int.toNat (w32 ((v2 38 52) - 1))))) 38 81 (v2 68 (Int.toNat (w32 ((v2 38 52) - 1))))))))))) ∧ (¬ (6 : Int) = 5 → (((1 : Int) = 0 ∨ (1 : Int) = 1) ∧ Q 1 (up v2 38 52 (w32 ((v2 38 52) - 1))))))) := by
    intro m g hmg hk
    unfold tlE at hk
    refine pr_rr h1 htx hn hmg (fun hm v' c' => ?_) (fun hm v' k' => ?_)
    · rw [if_pos hm] at hk
      exact ⟨fun _ => ⟨Or.inl rfl, hk v' c'⟩, fun c => absurd rfl c⟩
    · rw [if_neg (by omega)] at hk
      obtain ⟨⟨r1, r2, -⟩, r4⟩ := k'.pop1
      refine ⟨fun c => absurd c (by decide), fun _ => ⟨fun c => absurd c (by decide), fun _ => ⟨Or.inr rfl, ?_⟩⟩⟩
      rw [r1, wtp (A := (tmps P).length + 1) (B := (tmps P).length) (j := 1) (by omega) (by omega) (by omega)]
      exact hk Y ex J1 _ rfl hL hsl r4
  have hk : KRk v0 n z dp P sl L rt Q (if tyE u n G L e = 0 then tlE (flat (P ++ [(Y, ex, [])])) (dcl x.2.1) (dch x.2.1) ρ1 else tlE (flat (P ++ [(Y, ex, [])])) x.2.2.toNat (fun j => bt tx (rB ρ1) (x.2.1.toNat + j)) ρ1) := hk
  by_cases c0 : tyE u n G L e = 0
  · rw [if_pos c0] at hk
    exact key _ _ (Or.inl ⟨c0, rfl, rfl⟩) hk
  · rw [if_neg c0] at hk
    rcases p3.ty01 with q | q
    · exact absurd q c0
    · exact key _ _ (Or.inr ⟨q, rfl, rfl⟩) hk
/-- the reference does as a BLOCK says: its first S is x -/
def HRg (t : Int) (v0 : Mem) (u : Nat → Int) (n z dp : Nat) (G : Fn) (tx : Nat → Int) (cl : XC) (F D sl : Nat) (rt : Int) (L : Sc) (b : Jvm.Term) (x : Int) : Prop := ∀ (P : List Fr) (Y : List TyR) (ex : Nat) (J : Jb) (ρ : Rho) (v : Mem) (d : Nat) (Q : Int → Mem → Prop), P.length = F → (tmps P).length ≤ 80 * F → RX v0 n z dp 0 J (P ++ [(Y, ex, [])]) ρ v → Y.map (fun x => x.2) = L.map (fun x => x.2) → Y.length + ex = sl → rK ρ ≤ 40 * rN ρ → D ≤ d → KRk v0 n z dp P sl L rt Q (bS (evB u n G tx z cl (flat P).length L b (flat (P ++ [(Y, ex, [])])) ρ) (fun S1 ρ1 => clE (flat P).length L (scB u n G L b) S1 ρ1)) → RR t d 252 [(2, 38), (0, x)] v Q
theorem gs_if {t : Int} {v0 : Mem} {u : Nat → Int} {n z dp : Nat} {G : Fn} {tx : Nat → Int} {cl : XC} {F D Db sl : Nat} {rt : Int} {e b c : Jvm.Term} {P : List Fr} {Y : List TyR} {ex lo nlo n1 d : Nat} {L : Sc} {J : Jb} {ρ : Rho} {v : Mem} {X0 : Int} {Q : Int → Mem → Prop} (hcl : ∀ ci S ρ, rN ρ ≤ 20000 → okE 1 0 ρ (cl ci S ρ)) (we : wfE (kd u n) false e) (he : HRe t v0 u n z dp G tx cl F D e) (hF : P.length = F) (hP : (tmps P).length ≤ 80 * F) (h : RX v0 n z dp 0 J (P ++ [(Y, ex, [])]) ρ v) (hL : Y.map (fun x => x.2) = L.map (fun x => x.2)) (hsl : Y.length + ex = sl) (hlo : lo < 300) (e49 : v0 49 lo = 3) (e52 : v0 52 lo = X0) (hr : RN2 v0 u n G L e nlo n1 X0) (hn1 : n1 ≤ 3300) (nf : nfE u n G L e = []) (tf : tfE u n G L [] e = []) (hty : 0 = tyE u n G L e) (hK : rK ρ + sgn e ≤ 40 * rN ρ) (hT : (tmps P).length + tdE 0 e ≤ 80 * (F + 1)) (hd : D + 2 * hgt e ≤ d) (hb : HRg t v0 u n z dp G tx cl F Db sl rt L b (v0 53 lo)) (hc : HRg t v0 u n z dp G tx cl F Db sl rt L c (v0 54 lo)) (hdb : Db ≤ d) (hq : KRk v0 n z dp P sl L rt Q (bES (evE u n G tx z cl (flat P).length L e (flat (P ++ [(Y, ex, [])])) ρ) (fun q ρ1 => if (g2 q 0).2.1 = 0 then bS (evB u n G tx z cl (flat P).length L c (flat (P ++ [(Y, ex, [])])) (wH ρ1 (gc (flat (P ++ [(Y, ex, [])])) z0 (rH ρ1)))) (fun S1 ρ2 => clE (flat P).length L (scB u n G L c) S1 ρ2) else bS (evB u n G tx z cl (flat P).length L b (flat (P ++ [(Y, ex, [])])) (wH ρ1 (gc (flat (P ++ [(Y, ex, [])])) z0 (rH ρ1)))) (fun S1 ρ2 => clE (flat P).length L (scB u n G L b) S1 ρ2)))) : RR t (d + 1) 253 [(2, 38), (0, (lo : Int))] v Q := by
  have nl : 0 ≤ (lo : Int) ∧ (lo : Int) < 300 := ⟨by omega, by omega⟩
  have hX : tmps (P ++ [(Y, ex, [])]) = tmps P := by rw [tmps_1, List.append_nil]
  refine w_253 ⟨nl, nl, ?_⟩
  rw [Int.toNat_natCast, h.fx (c := 52) (by decide) (by decide), h.fx (c := 49) (by decide) (by decide), e52, e49]
  refine he P Y [] ex L J ρ v nlo n1 X0 d _ hF h hL hr hn1 nf tf hK (by rw [hX]; exact hT) hd (hq.toE (fun x ρ1 J1 v1 er hk h1 => ?_))
  have ok := (evE_ok (tx := tx) (z := z) (B := (flat P).length) (L := L) (G := G) hcl _ e (Nat.lt_succ_self _)).1 we (flat (P ++ [(Y, ex, [])])) ρ h.nle
  rw [er] at ok
  have o1 : rN ρ ≤ rN ρ1 := ok.2.1
  have o2 : rK ρ1 + 40 * rN ρ ≤ rK ρ + 40 * rN ρ1 + sgn e := ok.2.2.2
  rw [← hty] at h1
  obtain ⟨⟨p1, p2, p3⟩, p4⟩ := h1.pop1
  have p3 : rrw J1 n x 0 (v1 66 (tmps P).length) (v1 67 (tmps P).length) (v1 68 (tmps P).length) := p3
  have hx : x.2.1 = v1 68 (tmps P).length := by rw [(rrw.i0 p3).1]
  have hk : KRk v0 n z dp P sl L rt Q (if x.2.1 = 0 then bS (evB u n G tx z cl (flat P).length L c (flat (P ++ [(Y, ex, [])])) (wH ρ1 (gc (flat (P ++ [(Y, ex, [])])) z0 (rH ρ1)))) (fun S1 ρ2 => clE (flat P).length L (scB u n G L c) S1 ρ2) else bS (evB u n G tx z cl (flat P).length L b (flat (P ++ [(Y, ex, [])])) (wH ρ1 (gc (flat (P ++ [(Y, ex, [])])) z0 (rH ρ1)))) (fun S1 ρ2 => clE (flat P).length L (scB u n G L b) S1 ρ2)) := hk
  rw [hx] at hk
  have nd : 0 ≤ (((tmps P).length : Nat) : Int) ∧ (((tmps P).length : Nat) : Int) < 1500 := ⟨by omega, by omega⟩
  refine ⟨fun _ => ?_, fun c => absurd rfl c⟩
  rw [p1, wtp (A := (tmps P).length + 1) (B := (tmps P).length) (j := 1) (by omega) (by omega) (by omega), Int.toNat_natCast, h1.fx (c := 53) (by decide) (by decide), h1.fx (c := 54) (by decide) (by decide)]
  refine ⟨nd, fun c0 => ⟨nl, ?_⟩, fun c0 => ⟨nl, ?_⟩⟩
  · rw [if_pos c0] at hk
    exact hc P Y ex J1 _ _ d _ hF hP p4 hL hsl (by show rK ρ1 ≤ 40 * rN ρ1; omega) hdb hk.b01
  · rw [if_neg c0] at hk
    exact hb P Y ex J1 _ _ d _ hF hP p4 hL hsl (by show rK ρ1 ≤ 40 * rN ρ1; omega) hdb hk.b01
/-- rounds of a while -/
theorem wl_lp {t : Int} {v0 : Mem} {u : Nat → Int} {n z dp : Nat} {G : Fn} {tx : Nat → Int} {cl : XC} {F D Db sl hb0 : Nat} {rt : Int} {e b : Jvm.Term} {P : List Fr} {lo nlo n1 d : Nat} {L : Sc} {X0 : Int} {Q : Int → Mem → Prop} (hcl : ∀ ci S ρ, rN ρ ≤ 20000 → okE 1 0 ρ (cl ci S ρ)) (we : wfE (kd u n) false e) (wb : wfS (kd u n) b) (db : bdS b hb0) (hs : sgn e ≤ 40) (he : HRe t v0 u n z dp G tx cl F D e) (hF : P.length = F) (hP : (tmps P).length ≤ 80 * F) (hlo : lo < 300) (e52 : v0 52 lo = X0) (hr : RN2 v0 u n G L e nlo n1 X0) (hn1 : n1 ≤ 3300) (nf : nfE u n G L e = []) (tf : tfE u n G L [] e = []) (hty : 0 = tyE u n G L e) (hT : (tmps P).length + tdE 0 e ≤ 80 * (F + 1)) (hd : D + 2 * hgt e ≤ d) (hb : HRg t v0 u n z dp G tx cl F Db sl rt L b (v0 53 lo)) (hdb : Db ≤ d) (hd1 : 1 ≤ d) : ∀ (k : Nat) (Y : List TyR) (ex : Nat) (J : Jb) (ρ1 : Rho) (v : Mem), 20000 ≤ rN ρ1 + k → RX v0 n z dp 0 J (P ++ [(Y, ex, [])]) (wH ρ1 (gc (flat (P ++ [(Y, ex, [])])) z0 (rH ρ1))) v → Y.map (fun x => x.2) = L.map (fun x => x.2) → Y.length + ex = sl → rK ρ1 ≤ 40 * rN ρ1 → (tmps P).length < 1500 → KRk v0 n z dp P sl L rt Q (if v 68 (tmps P).length = 0 then okW (flat (P ++ [(Y, ex, [])])) ρ1 else stP (wH ρ1 (gc (flat (P ++ [(Y, ex, [])])) z0 (rH ρ1))) (fun ρ2 => bS (bS (evB u n G tx z cl (flat P).length L b (flat (P ++ [(Y, ex, [])])) ρ2) (fun S1 ρ1 => clE (flat P).length L (scB u n G L b) S1 ρ1)) (fun S1 ρ3 => whl (fun S ρ => bES (evE u n G tx z cl (flat P).length L e S ρ) (fun q ρ1 => .ok (false, q, ρ1))) (fun S ρ => bS (evB u n G tx z cl (flat P).length L b S ρ) (fun S1 ρ1 => clE (flat P).length L (scB u n G L b) S1 ρ1)) k S1 ρ3))) → LL t (d + 1) 254 10 [(2, 38), (0, (lo : Int))] [] v Q := by
  have nl : 0 ≤ (lo : Int) ∧ (lo : Int) < 300 := ⟨by omega, by omega⟩
  intro k
  induction k with
  | zero =>
    intro Y ex J ρ1 v hk h hL hsl hK hl hq
    have e0 := h.n0
    have hX : tmps (P ++ [(Y, ex, [])]) = tmps P := by rw [tmps_1, List.append_nil]
    rw [hX] at e0
    have hN : rN ρ1 ≤ 20000 := h.nle
    obtain ⟨d', rfl⟩ : ∃ d', d = d' + 1 := ⟨d - 1, by omega⟩
    refine w_254_10 ?_
    rw [e0, Int.toNat_natCast]
    refine ⟨⟨by omega, by omega⟩, fun c => ⟨Or.inr rfl, ?_⟩, fun c => ?_⟩
    · rw [if_pos c] at hq
      exact hq Y ex J v rfl hL hsl h
    · rw [if_neg c] at hq
      unfold stP at hq
      rw [if_pos (show rN ρ1 = 20000 by omega)] at hq
      exact step_rr h (fun _ v' g => ⟨fun _ => ⟨Or.inl rfl, hq v' g⟩, fun c => absurd rfl c⟩) (fun c => absurd (show rN ρ1 = 20000 by omega) c)
  | succ k ih =>
    intro Y ex J ρ1 v hk h hL hsl hK hl hq
    have e0 := h.n0
    have hX : tmps (P ++ [(Y, ex, [])]) = tmps P := by rw [tmps_1, List.append_nil]
    rw [hX] at e0
    have hN : rN ρ1 ≤ 20000 := h.nle
    obtain ⟨d', rfl⟩ : ∃ d', d = d' + 1 := ⟨d - 1, by omega⟩
    refine w_254_10 ?_
    rw [e0, Int.toNat_natCast]
    refine ⟨⟨by omega, by omega⟩, fun c => ⟨Or.inr rfl, ?_⟩, fun c => ?_⟩
    · rw [if_pos c] at hq
      exact hq Y ex J v rfl hL hsl h
    · rw [if_neg c] at hq
      unfold stP at hq
      refine step_rr h (fun c20 v' g => ?_) (fun c20 v' h2 => ?_)
      · rw [if_pos c20] at hq
        exact ⟨fun _ => ⟨Or.inl rfl, hq v' g⟩, fun c => absurd rfl c⟩
      · rw [if_neg c20] at hq
        have c20 : ¬ rN ρ1 = 20000 := c20
        refine ⟨fun c => absurd c (by decide), fun _ => ⟨nl, ?_⟩⟩
        rw [Int.toNat_natCast, h2.fx (c := 53) (by decide) (by decide)]
        refine hb P Y ex J _ v' (d' + 1) _ hF hP h2 hL hsl (by show rK ρ1 ≤ 40 * (rN ρ1 + 1); omega) hdb (hq.bnd (fun S1 ρ3 Y3 ex3 J3 v3 er3 hk3 eS hL3 hs3 h3 => ?_) (fun r1 ρ' J' v3 hQ g => ?_) (fun v3 g => ⟨fun _ => ⟨Or.inl rfl, g⟩, fun c => absurd rfl c⟩))
        · have e78 : v3 38 78 = 0 := h3.2.2.2.2.1.2.1.2.2
          have ok3 := evK_ok (G := G) (tx := tx) (z := z) (B := (flat P).length) hcl wb db (L := L) (S := flat (P ++ [(Y, ex, [])])) (ρ := wN (wH ρ1 (gc (flat (P ++ [(Y, ex, [])])) z0 (rH ρ1))) (rN ρ1 + 1)) (by show rN ρ1 + 1 ≤ 20000; omega)
          have er3 : evK u n G tx z cl (flat P).length L b (flat (P ++ [(Y, ex, [])])) (wN (wH ρ1 (gc (flat (P ++ [(Y, ex, [])])) z0 (rH ρ1))) (rN ρ1 + 1)) = .ok (false, S1, ρ3) := er3
          rw [er3] at ok3
          obtain ⟨⟨g1, g2', g3⟩, -, -⟩ := ok3
          have g1 : rN ρ1 + 1 ≤ rN ρ3 := g1
          have g3 : rK ρ3 + 40 * (rN ρ1 + 1) ≤ rK ρ1 + 40 * rN ρ3 + 0 := g3
          refine ⟨fun c => absurd c (by decide), fun _ => ⟨fun _ => ⟨nl, ?_⟩, fun c => absurd e78 c⟩⟩
          rw [h3.fx (c := 52) (by decide) (by decide), e52]
          subst eS
          have hX3 : tmps (P ++ [(Y3, ex3, [])]) = tmps P := by rw [tmps_1, List.append_nil]
          have hk3 : KRk v0 n z dp P sl L rt Q (bS (bES (evE u n G tx z cl (flat P).length L e (flat (P ++ [(Y3, ex3, [])])) ρ3) (fun q ρ1 => .ok (false, q, ρ1))) (fun q ρ4 => if (g2 q 0).2.1 = 0 then okW (flat (P ++ [(Y3, ex3, [])])) ρ4 else stP (wH ρ4 (gc (flat (P ++ [(Y3, ex3, [])])) z0 (rH ρ4))) (fun ρ2 => bS (bS (evB u n G tx z cl (flat P).length L b (flat (P ++ [(Y3, ex3, [])])) ρ2) (fun S1 ρ1 => clE (flat P).length L (scB u n G L b) S1 ρ1)) (fun S1 ρ3 => whl (fun S ρ => bES (evE u n G tx z cl (flat P).length L e S ρ) (fun q ρ1 => .ok (false, q, ρ1))) (fun S ρ => bS (evB u n G tx z cl (flat P).length L b S ρ) (fun S1 ρ1 => clE (flat P).length L (scB u n G L b) S1 ρ1)) k S1 ρ3)))) := hk3
          rw [bS_bES] at hk3
          refine he P Y3 [] ex3 L J3 ρ3 v3 nlo n1 X0 (d' + 1) _ hF h3 hL3 hr hn1 nf tf (by omega) (by rw [hX3]; exact hT) hd (hk3.toE (fun x ρ4 J4 v4 er4 hk4 h4 => ?_))
          have ok := (evE_ok (tx := tx) (z := z) (B := (flat P).length) (L := L) (G := G) hcl _ e (Nat.lt_succ_self _)).1 we (flat (P ++ [(Y3, ex3, [])])) ρ3 h3.nle
          rw [er4] at ok
          have o1 : rN ρ3 ≤ rN ρ4 := ok.2.1
          have o2 : rK ρ4 + 40 * rN ρ3 ≤ rK ρ3 + 40 * rN ρ4 + sgn e := ok.2.2.2
          rw [← hty] at h4
          obtain ⟨⟨p1, p2, p3⟩, p4⟩ := h4.pop1
          have p3 : rrw J4 n x 0 (v4 66 (tmps P).length) (v4 67 (tmps P).length) (v4 68 (tmps P).length) := p3
          have hx : x.2.1 = v4 68 (tmps P).length := by rw [(rrw.i0 p3).1]
          rw [p1, wtp (A := (tmps P).length + 1) (B := (tmps P).length) (j := 1) (by omega) (by omega) (by omega)]
          refine ih Y3 ex3 J4 ρ4 _ (by omega) p4 hL3 hs3 (by omega) hl ?_
          rw [up_ne (by decide), ← hx]
          exact hk4
        · have e78 : v3 38 78 = 1 := g.2.1.1
          exact ⟨fun c => absurd c (by decide), fun _ => ⟨fun c => absurd c (by rw [e78]; decide), fun _ => ⟨Or.inr rfl, hQ J' v3 g⟩⟩⟩
theorem gs_while {t : Int} {v0 : Mem} {u : Nat → Int} {n z dp : Nat} {G : Fn} {tx : Nat → Int} {cl : XC} {F D Db sl hb0 : Nat} {rt : Int} {e b : Jvm.Term} {P : List Fr} {Y : List TyR} {ex lo nlo n1 d : Nat} {L : Sc} {J : Jb} {ρ : Rho} {v : Mem} {X0 : Int} {Q : Int → Mem → Prop} (hcl : ∀ ci S ρ, rN ρ ≤ 20000 → okE 1 0 ρ (cl ci S ρ)) (we : wfE (kd u n) false e) (wb : wfS (kd u n) b) (db : bdS b hb0) (hs : sgn e ≤ 40) (he : HRe t v0 u n z dp G tx cl F D e) (hF : P.length = F) (hP : (tmps P).length ≤ 80 * F) (h : RX v0 n z dp 0 J (P ++ [(Y, ex, [])]) ρ v) (hL : Y.map (fun x => x.2) = L.map (fun x => x.2)) (hsl : Y.length + ex = sl) (hlo : lo < 300) (e49 : v0 49 lo = 4) (e52 : v0 52 lo = X0) (hr : RN2 v0 u n G L e nlo n1 X0) (hn1 : n1 ≤ 3300) (nf : nfE u n G L e = []) (tf : tfE u n G L [] e = []) (hty : 0 = tyE u n G L e) (hK : rK ρ + sgn e ≤ 40 * rN ρ) (hT : (tmps P).length + tdE 0 e ≤ 80 * (F + 1)) (hd : D + 2 * hgt e + 1 ≤ d) (hb : HRg t v0 u n z dp G tx cl F Db sl rt L b (v0 53 lo)) (hdb : Db + 1 ≤ d) (hd1 : 2 ≤ d) (hq : KRk v0 n z dp P sl L rt Q (whl (fun S ρ => bES (evE u n G tx z cl (flat P).length L e S ρ) (fun q ρ1 => .ok (false, q, ρ1))) (fun S ρ => bS (evB u n G tx z cl (flat P).length L b S ρ) (fun S1 ρ1 => clE (flat P).length L (scB u n G L b) S1 ρ1)) 20001 (flat (P ++ [(Y, ex, [])])) ρ)) : RR t (d + 1) 253 [(2, 38), (0, (lo : Int))] v Q := by
  have nl : 0 ≤ (lo : Int) ∧ (lo : Int) < 300 := ⟨by omega, by omega⟩
  have hX : tmps (P ++ [(Y, ex, [])]) = tmps P := by rw [tmps_1, List.append_nil]
  have hq : KRk v0 n z dp P sl L rt Q (bS (bES (evE u n G tx z cl (flat P).length L e (flat (P ++ [(Y, ex, [])])) ρ) (fun q ρ1 => .ok (false, q, ρ1))) (fun q ρ4 => if (g2 q 0).2.1 = 0 then okW (flat (P ++ [(Y, ex, [])])) ρ4 else stP (wH ρ4 (gc (flat (P ++ [(Y, ex, [])])) z0 (rH ρ4))) (fun ρ2 => bS (bS (evB u n G tx z cl (flat P).length L b (flat (P ++ [(Y, ex, [])])) ρ2) (fun S1 ρ1 => clE (flat P).length L (scB u n G L b) S1 ρ1)) (fun S1 ρ3 => whl (fun S ρ => bES (evE u n G tx z cl (flat P).length L e S ρ) (fun q ρ1 => .ok (false, q, ρ1))) (fun S ρ => bS (evB u n G tx z cl (flat P).length L b S ρ) (fun S1 ρ1 => clE (flat P).length L (scB u n G L b) S1 ρ1)) 20000 S1 ρ3)))) := hq
  rw [bS_bES] at hq
  refine w_253 ⟨nl, nl, ?_⟩
  rw [Int.toNat_natCast, h.fx (c := 52) (by decide) (by decide), h.fx (c := 49) (by decide) (by decide), e52, e49]
  refine he P Y [] ex L J ρ v nlo n1 X0 d _ hF h hL hr hn1 nf tf hK (by rw [hX]; exact hT) (by omega) (hq.toE (fun x ρ1 J1 v1 er hk h1 => ?_))
  have ok := (evE_ok (tx := tx) (z := z) (B := (flat P).length) (L := L) (G := G) hcl _ e (Nat.lt_succ_self _)).1 we (flat (P ++ [(Y, ex, [])])) ρ h.nle
  rw [er] at ok
  have o1 : rN ρ ≤ rN ρ1 := ok.2.1
  have o2 : rK ρ1 + 40 * rN ρ ≤ rK ρ + 40 * rN ρ1 + sgn e := ok.2.2.2
  rw [← hty] at h1
  obtain ⟨⟨p1, p2, p3⟩, p4⟩ := h1.pop1
  have p3 : rrw J1 n x 0 (v1 66 (tmps P).length) (v1 67 (tmps P).length) (v1 68 (tmps P).length) := p3
  have hx : x.2.1 = v1 68 (tmps P).length := by rw [(rrw.i0 p3).1]
  obtain ⟨d', rfl⟩ : ∃ d', d = d' + 1 := ⟨d - 1, by omega⟩
  refine ⟨fun c => absurd c (by decide), fun _ => ⟨fun _ => w_254 ?_, fun c => absurd rfl c⟩⟩
  rw [p1, wtp (A := (tmps P).length + 1) (B := (tmps P).length) (j := 1) (by omega) (by omega) (by omega)]
  refine wl_lp hcl we wb db hs he hF hP hlo e52 hr hn1 nf tf hty hT (by omega) hb (by omega) (by omega) 20000 Y ex J1 ρ1 _ (by omega) p4 hL hsl (by omega) (by omega) ?_
  rw [up_ne (by decide), ← hx]
  exact KRk.b01 hk
