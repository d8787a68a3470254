/-! The reference does what S say: one by one. -/
theorem setA {l : List Rw} {r : Rw} {k : Nat} : ∀ (m : List Rw), (l ++ m).set (l.length + k) r = l ++ m.set k r := by
  induction l with
  | nil => intro m; rw [List.length_nil, Nat.zero_add]; rfl
  | cons x l ih =>
    intro m
    show (x :: (l ++ m)).set (l.length + 1 + k) r = x :: (l ++ m.set k r)
    rw [show l.length + 1 + k = (l.length + k) + 1 from by omega]
    show x :: (l ++ m).set (l.length + k) r = _
    rw [ih]
theorem zr_add : ∀ (a b : Nat), zr a ++ zr b = zr (a + b) := by
  intro a
  induction a with
  | zero => intro b; rw [Nat.zero_add]; rfl
  | succ a ih =>
    intro b
    rw [show a + 1 + b = (a + b) + 1 from by omega]
    show (-1, 0, 0) :: (zr a ++ zr b) = (-1, 0, 0) :: zr (a + b)
    rw [ih]
theorem flat_take {P : List Fr} {R : List Fr} : (flat (P ++ R)).take (flat P).length = flat P := by
  rw [flat_app, List.take_left]
theorem flat_let {P : List Fr} {Y : List TyR} {ex : Nat} {x : Rw} {ty : Int} (h : 1 ≤ ex) : (flat (P ++ [(Y, ex, [])])).set ((flat P).length + Y.length) x = flat (P ++ [(Y ++ [(x, ty)], ex - 1, [])]) := by
  obtain ⟨e, rfl⟩ : ∃ e, ex = e + 1 := ⟨ex - 1, by omega⟩
  rw [flat_1, flat_1, setA, rws_app]
  have q : (rws Y ++ (zr (e + 1) ++ rws [])).set Y.length x = rws Y ++ (zr (e + 1) ++ rws []).set 0 x := by
    have q0 := setA (l := rws Y) (r := x) (k := 0) (zr (e + 1) ++ rws [])
    rw [rws_len] at q0
    exact q0
  rw [q, List.append_assoc]
  rfl
theorem flat_giv {P : List Fr} {Y : List TyR} {ex j : Nat} {x : Rw} {ty : Int} (h : j < Y.length) : (flat (P ++ [(Y, ex, [])])).set ((flat P).length + j) x = flat (P ++ [(Y.set j (x, ty), ex, [])]) := by
  rw [flat_1, flat_1, setA, List.set_append_left _ _ (by rw [rws_len]; exact h)]
  have e : (rws Y).set j x = rws (Y.set j (x, ty)) := by
    unfold rws
    rw [List.map_set]
  rw [e]
theorem clr_gen : ∀ (T A R : List Rw), clrR (A ++ (T ++ R)) A.length T.length = A ++ (zr T.length ++ R) := by
  intro T
  induction T with
  | nil => intro A R; rfl
  | cons x T ih =>
    intro A R
    show clrR ((A ++ (x :: T ++ R)).set A.length (-1, 0, 0)) (A.length + 1) T.length = _
    have e1 : (A ++ (x :: T ++ R)).set A.length (-1, 0, 0) = (A ++ [(-1, 0, 0)]) ++ (T ++ R) := by
      have q := setA (l := A) (r := (-1, 0, 0)) (k := 0) (x :: T ++ R)
      rw [Nat.add_zero] at q
      rw [q, List.append_assoc]
      rfl
    have e2 : A.length + 1 = (A ++ [((-1 : Int), (0 : Int), (0 : Int))]).length := by rw [List.length_append]; rfl
    rw [e1, e2, ih, List.append_assoc]
    rfl
theorem flat_cut {P : List Fr} {Y : List TyR} {ex h : Nat} (hh : h ≤ Y.length) : clrR (flat (P ++ [(Y, ex, [])])) ((flat P).length + h) (Y.length - h) = flat (P ++ [(Y.take h, ex + (Y.length - h), [])]) := by
  have e1 : flat (P ++ [(Y, ex, [])]) = (flat P ++ rws (Y.take h)) ++ (rws (Y.drop h) ++ (zr ex ++ [])) := by
    rw [flat_1]
    have : rws Y = rws (Y.take h) ++ rws (Y.drop h) := by rw [← rws_app, List.take_append_drop]
    rw [this]
    simp only [List.append_assoc]
    rfl
  have e2 : (flat P).length + h = (flat P ++ rws (Y.take h)).length := by rw [List.length_append, rws_len, List.length_take]; omega
  have e3 : Y.length - h = (rws (Y.drop h)).length := by rw [rws_len, List.length_drop]
  rw [e1, e2]
  rw [show clrR ((flat P ++ rws (Y.take h)) ++ (rws (Y.drop h) ++ (zr ex ++ []))) (flat P ++ rws (Y.take h)).length (Y.length - h) = clrR ((flat P ++ rws (Y.take h)) ++ (rws (Y.drop h) ++ (zr ex ++ []))) (flat P ++ rws (Y.take h)).length (rws (Y.drop h)).length from by rw [← e3]]
  rw [clr_gen, flat_1, ← e3, ← Nat.add_comm, ← zr_add]
  simp only [List.append_assoc]
  rfl
/-- a FUNCTION has given r back, its frame is still there -/
def RBk (v0 : Mem) (n z dp : Nat) (J : Jb) (P : List Fr) (rt : Int) (r : Rw) (ρ : Rho) (v : Mem) : Prop := (RHb v z J ∧ rH ρ = gc (flat P ++ [r]) z0 (blk J) ∧ RSt v n J (tmps P) ∧ RLo v n J 0 P) ∧ (v 38 78 = 1 ∧ RNu (up v 38 78 0) 0 dp (P.length + 1) ρ) ∧ RBy v ρ ∧ RFx v0 v ∧ rrw J n r rt (v 38 79) (v 38 80) (v 38 81)
/-- what is to follow behind S: L in scope then -/
def KRk (v0 : Mem) (n z dp : Nat) (P : List Fr) (sl : Nat) (L : Sc) (rt : Int) (Q : Int → Mem → Prop) (r : XS) : Prop := match r with
  | .error er => ∀ v', RE v0 n z dp er v' → Q 0 v'
  | .ok (false, S', ρ') => ∀ Y' ex' J' v', S' = flat (P ++ [(Y', ex', [])]) → Y'.map (fun x => x.2) = L.map (fun x => x.2) → Y'.length + ex' = sl → RX v0 n z dp 0 J' (P ++ [(Y', ex', [])]) ρ' v' → Q 1 v'
  | .ok (true, q, ρ') => ∀ r1 J' v', q = [r1] → RBk v0 n z dp J' P rt r1 ρ' v' → Q 1 v'
theorem KRk.bnd {v0 : Mem} {n z dp : Nat} {P : List Fr} {sl : Nat} {L L1 : Sc} {rt : Int} {Q Q' : Int → Mem → Prop} {r : XS} {k : List Rw → Rho → XS} (h : KRk v0 n z dp P sl L rt Q (bS r k)) (hF : ∀ S1 ρ1 Y' ex' J' v', r = .ok (false, S1, ρ1) → KRk v0 n z dp P sl L rt Q (k S1 ρ1) → S1 = flat (P ++ [(Y', ex', [])]) → Y'.map (fun x => x.2) = L1.map (fun x => x.2) → Y'.length + ex' = sl → RX v0 n z dp 0 J' (P ++ [(Y', ex', [])]) ρ1 v' → Q' 1 v') (hT : ∀ r1 ρ' J' v', (∀ J'' v'', RBk v0 n z dp J'' P rt r1 ρ' v'' → Q 1 v'') → RBk v0 n z dp J' P rt r1 ρ' v' → Q' 1 v') (hE : ∀ v', Q 0 v' → Q' 0 v') : KRk v0 n z dp P sl L1 rt Q' r := by
  match r, h with
  | .error er, h => exact fun v' g => hE v' (h v' g)
  | .ok (false, S1, ρ1), h => exact fun Y' ex' J' v' e1 e2 e3 g => hF S1 ρ1 Y' ex' J' v' rfl h e1 e2 e3 g
  | .ok (true, q, ρ'), h => exact fun r1 J' v' e1 g => hT r1 ρ' J' v' (fun J'' v'' g' => h r1 J'' v'' e1 g') g
theorem KRk.b01 {v0 : Mem} {n z dp : Nat} {P : List Fr} {sl : Nat} {L : Sc} {rt : Int} {Q : Int → Mem → Prop} {r : XS} (h : KRk v0 n z dp P sl L rt Q r) : KRk v0 n z dp P sl L rt (fun x v => (x = 0 ∨ x = 1) ∧ Q x v) r := by
  match r, h with
  | .error er, h => exact fun v' g => ⟨Or.inl rfl, h v' g⟩
  | .ok (false, S1, ρ1), h => exact fun Y' ex' J' v' e1 e2 e3 g => ⟨Or.inr rfl, h Y' ex' J' v' e1 e2 e3 g⟩
  | .ok (true, q, ρ'), h => exact fun r1 J' v' e1 g => ⟨Or.inr rfl, h r1 J' v' e1 g⟩
theorem KRk.toE {v0 : Mem} {n z dp : Nat} {P : List Fr} {sl : Nat} {L : Sc} {rt : Int} {Q : Int → Mem → Prop} {C : Mem → Prop} {Y : List TyR} {ex : Nat} {ty : Int} {r : XE} {k : List Rw → Rho → XS} (h : KRk v0 n z dp P sl L rt Q (bES r k)) (hk : ∀ r1 ρ1 J' v', r = .ok ([r1], ρ1) → KRk v0 n z dp P sl L rt Q (k [r1] ρ1) → RX v0 n z dp 0 J' (P ++ [(Y, ex, [(r1, ty)])]) ρ1 v' → C v') : KRe v0 n z dp P Y ex [] ty (fun x v' => (x = 0 → ((0 : Int) = 0 ∨ (0 : Int) = 1) ∧ Q 0 v') ∧ (¬ x = 0 → C v')) r := by
  match r, h with
  | .error er, h => exact fun v' g => ⟨fun _ => ⟨Or.inl rfl, h v' g⟩, fun c => absurd rfl c⟩
  | .ok (q, ρ1), h =>
    intro r1 J' v' e1 g
    have e1 : q = [r1] := e1
    subst e1
    exact ⟨fun c => absurd c (by decide), fun _ => hk r1 ρ1 J' v' rfl h g⟩
theorem mem_rws {Y : List TyR} {p : Nat} (h : 0 < cnt p (rws Y)) : ∃ x ∈ Y, x.1.1 = (p : Int) := by
  obtain ⟨j, hj, e⟩ := cnt_ex _ h
  rw [rws_len] at hj
  refine ⟨Y.getD j ((-1, 0, 0), 0), getD_mem _ j hj, ?_⟩
  have q := getD_mp (f := fun x : TyR => x.1) (d := ((-1, 0, 0), 0)) (e := (-1, 0, 0)) Y j hj
  rw [← q]
  exact e
/-- the one part goes -/
theorem RX.pop1 {v0 v : Mem} {n z dp : Nat} {J : Jb} {P : List Fr} {Y : List TyR} {ex : Nat} {ρ : Rho} {x : TyR} (h : RX v0 n z dp 0 J (P ++ [(Y, ex, [x])]) ρ v) : (v 38 52 = (((tmps P).length + 1 : Nat) : Int) ∧ (tmps P).length + 1 ≤ 1500 ∧ rrw J n x.1 x.2 (v 66 (tmps P).length) (v 67 (tmps P).length) (v 68 (tmps P).length)) ∧ RX v0 n z dp 0 J (P ++ [(Y, ex, [])]) (wH ρ (gc (flat (P ++ [(Y, ex, [])])) z0 (rH ρ))) (up v 38 52 (((tmps P).length : Nat) : Int)) := by
  have hX : tmps (P ++ [(Y, ex, [])]) = tmps P := by rw [tmps_1, List.append_nil]
  have h' : RX v0 n z dp 0 J (P ++ [(Y, ex, [] ++ [x])]) ρ v := h
  have e1 := h'.n52.1
  have e2 := h'.n52.2
  have gg := h'.get (k := 0) (by show 0 < 1; decide)
  rw [hX] at e1 e2
  rw [hX, Nat.add_zero] at gg
  exact ⟨⟨e1, e2, gg⟩, h'.drop (by rw [up_k, hX]) (fun k hk => up_nk hk) (fun c hc => up_ne hc)⟩
/-- do -/
theorem gs_do {t : Int} {v0 : Mem} {u : Nat → Int} {n z dp : Nat} {G : Fn} {tx : Nat → Int} {cl : XC} {F D sl i : Nat} {rt : Int} {e : Jvm.Term} {P : List Fr} {Y : List TyR} {ex lo nlo n1 d : Nat} {L : Sc} {J : Jb} {ρ : Rho} {v : Mem} {X0 : Int} {Q : Int → Mem → Prop} (he : HRe t v0 u n z dp G tx cl F D e) (hF : P.length = F) (h : RX v0 n z dp 0 J (P ++ [(Y, ex, [])]) ρ v) (hL : Y.map (fun x => x.2) = L.map (fun x => x.2)) (hsl : Y.length + ex = sl) (hlo : lo < 300) (e49 : v0 49 lo = 7) (e52 : v0 52 lo = X0) (hr : RN2 v0 u n G L e nlo n1 X0) (hn1 : n1 ≤ 3300) (nf : nfE u n G L e = []) (tf : tfE u n G L [] e = []) (hK : rK ρ + sgn e ≤ 40 * rN ρ) (hT : (tmps P).length + tdE 0 e ≤ 80 * (F + 1)) (hd : D + 2 * hgt e ≤ d) (hq : KRk v0 n z dp P sl L rt Q (bES (evE u n G tx z cl (flat P).length L e (flat (P ++ [(Y, ex, [])])) ρ) (fun q ρ1 => okW (flat (P ++ [(Y, ex, [])])) ρ1))) (hd1 : 1 ≤ d) : RR t (d + 1) 253 [(2, 38), (0, (lo : Int))] v Q := by
  have nl : 0 ≤ (lo : Int) ∧ (lo : Int) < 300 := ⟨by omega, by omega⟩
  have hX : tmps (P ++ [(Y, ex, [])]) = tmps P := by rw [tmps_1, List.append_nil]
  refine w_253 ⟨nl, nl, ?_⟩
  rw [Int.toNat_natCast, h.fx (c := 52) (by decide) (by decide), h.fx (c := 49) (by decide) (by decide), e52, e49]
  refine he P Y [] ex L J ρ v nlo n1 X0 d _ hF h hL hr hn1 nf tf hK (by rw [hX]; exact hT) hd (hq.toE (fun x ρ1 J1 v1 er hk h1 => ?_))
  obtain ⟨⟨p1, p2, p3⟩, p4⟩ := h1.pop1
  obtain ⟨d', rfl⟩ : ∃ d', d = d' + 1 := ⟨d - 1, by omega⟩
  refine ⟨fun c => absurd c (by decide), fun _ => ⟨fun c => absurd c (by decide), fun _ => ⟨nl, fun c => absurd c (by decide), fun _ => w_253_133 ⟨fun c => absurd c (by decide), fun _ => ⟨fun c => absurd c (by decide), fun _ => w_253_194 ⟨fun c => absurd c (by decide), fun _ => ⟨fun c => absurd c (by decide), fun _ => ⟨Or.inr rfl, ?_⟩⟩⟩⟩⟩⟩⟩⟩
  rw [p1, wtp (A := (tmps P).length + 1) (B := (tmps P).length) (j := 1) (by omega) (by omega) (by omega)]
  exact hk Y ex J1 _ rfl hL hsl p4
/-- return -/
theorem gs_ret {t : Int} {v0 : Mem} {u : Nat → Int} {n z dp : Nat} {G : Fn} {tx : Nat → Int} {cl : XC} {F D sl i : Nat} {rt : Int} {e : Jvm.Term} {P : List Fr} {Y : List TyR} {ex lo nlo n1 d : Nat} {L L' : Sc} {J : Jb} {ρ : Rho} {v : Mem} {X0 : Int} {Q : Int → Mem → Prop} (he : HRe t v0 u n z dp G tx cl F D e) (hF : P.length = F) (h : RX v0 n z dp 0 J (P ++ [(Y, ex, [])]) ρ v) (hL : Y.map (fun x => x.2) = L.map (fun x => x.2)) (hlo : lo < 300) (e49 : v0 49 lo = 5) (e52 : v0 52 lo = X0) (hr : RN2 v0 u n G L e nlo n1 X0) (hn1 : n1 ≤ 3300) (nf : nfE u n G L e = []) (tf : tfE u n G L [] e = []) (hty : rt = tyE u n G L e) (hK : rK ρ + sgn e ≤ 40 * rN ρ) (hT : (tmps P).length + tdE 0 e ≤ 80 * (F + 1)) (hd : D + 2 * hgt e ≤ d) (hq : KRk v0 n z dp P sl L' rt Q (bES (evE u n G tx z cl (flat P).length L e (flat (P ++ [(Y, ex, [])])) ρ) (fun q ρ1 => .ok (true, [g2 q 0], wH ρ1 (gc ((flat (P ++ [(Y, ex, [])])).take (flat P).length ++ [g2 q 0]) z0 (rH ρ1)))))) (hd1 : 1 ≤ d) : RR t (d + 1) 253 [(2, 38), (0, (lo : Int))] v Q := by
  have nl : 0 ≤ (lo : Int) ∧ (lo : Int) < 300 := ⟨by omega, by omega⟩
  have hX : tmps (P ++ [(Y, ex, [])]) = tmps P := by rw [tmps_1, List.append_nil]
  refine w_253 ⟨nl, nl, ?_⟩
  rw [Int.toNat_natCast, h.fx (c := 52) (by decide) (by decide), h.fx (c := 49) (by decide) (by decide), e52, e49]
  refine he P Y [] ex L J ρ v nlo n1 X0 d _ hF h hL hr hn1 nf tf hK (by rw [hX]; exact hT) hd (hq.toE (fun x ρ1 J1 v1 er hk h1 => ?_))
  obtain ⟨⟨p1, p2, p3⟩, -⟩ := h1.pop1
  obtain ⟨d', rfl⟩ : ∃ d', d = d' + 1 := ⟨d - 1, by omega⟩
  have nd : 0 ≤ (((tmps P).length : Nat) : Int) ∧ (((tmps P).length : Nat) : Int) < 1500 := ⟨by omega, by omega⟩
  refine ⟨fun c => absurd c (by decide), fun _ => ⟨fun c => absurd c (by decide), fun _ => ⟨nl, fun c => absurd c (by decide), fun _ => w_253_133 ⟨fun c => absurd c (by decide), fun _ => ⟨fun c => absurd c (by decide), fun _ => w_253_194 ⟨fun c => absurd c (by decide), fun _ => ⟨fun _ => ?_, fun c => absurd rfl c⟩⟩⟩⟩⟩⟩⟩
  rw [p1, wtp (A := (tmps P).length + 1) (B := (tmps P).length) (j := 1) (by omega) (by omega) (by omega), Int.toNat_natCast]
  refine ⟨Or.inr rfl, nd, nd, nd, Or.inr rfl, ?_⟩
  have hk : ∀ r1 J' v', [x] = [r1] → RBk v0 n z dp J' P rt r1 (wH ρ1 (gc ((flat (P ++ [(Y, ex, [])])).take (flat P).length ++ [x]) z0 (rH ρ1))) v' → Q 1 v' := hk
  rw [flat_take] at hk
  rw [← hty] at h1 p3
  refine hk x J1 _ rfl ?_
  obtain ⟨a1, a2, a3, a4, a5, a6, a7⟩ := h1
  generalize hw : up (up (up (up (up v1 38 52 (((tmps P).length : Nat) : Int)) 38 78 1) 38 79 (v1 66 (tmps P).length)) 38 80 (v1 67 (tmps P).length)) 38 81 (v1 68 (tmps P).length) = w
  have c1 : ∀ c, c ≠ 38 → w c = v1 c := fun c hc => by rw [← hw, up_ne hc, up_ne hc, up_ne hc, up_ne hc, up_ne hc]
  have c2 : ∀ k, k ≠ 52 → ¬ (78 ≤ k ∧ k ≤ 81) → w 38 k = v1 38 k := fun k k1 k2 => by rw [← hw, up_nk (by omega), up_nk (by omega), up_nk (by omega), up_nk (by omega), up_nk (by omega)]
  have c52 : w 38 52 = (((tmps P).length : Nat) : Int) := by rw [← hw]; rfl
  have c78 : w 38 78 = 1 := by rw [← hw]; rfl
  have c79 : w 38 79 = v1 66 (tmps P).length := by rw [← hw]; rfl
  have c80 : w 38 80 = v1 67 (tmps P).length := by rw [← hw]; rfl
  have c81 : w 38 81 = v1 68 (tmps P).length := by rw [← hw]; rfl
  have a4 := ((RLo_app _ _ _).mp a4).1
  have tl : tmps (P ++ [(Y, ex, [(x, rt)])]) = tmps P ++ [(x, rt)] := tmps_1
  refine ⟨⟨a1.same (c2 _ (by decide) (by omega)) (c2 _ (by decide) (by omega)) (c2 _ (by decide) (by omega)) (fun c hc => c1 c (by omega)), ?_, ⟨c52, by omega, fun j hj => ?_⟩, RLo.same (fun c hc => c1 c (by omega)) _ _ a4⟩, ⟨c78, ?_⟩, fun b hb j hj => ?_, a7.trans (fun c _ c2' => c1 c c2') (fun k hk => c2 k (by omega) (by omega)), ?_⟩
  · show gc (flat P ++ [x]) z0 (rH ρ1) = _
    rw [a2]
    refine gc_sub (fun b hb' hp => ?_)
    rw [cnt_app] at hp
    rw [flat_1, cnt_app, cnt_app, cnt_app]
    have e0 : cnt b.1 (rws [(x, rt)]) = cnt b.1 [x] := rfl
    omega
  · rw [c1 66 (by decide), c1 67 (by decide), c1 68 (by decide)]
    have q := a3.2.2 j (by rw [tl, List.length_append]; omega)
    rw [tl, gd_app1 hj] at q
    exact q
  · have q := a5.same (v' := up w 38 78 0) (fun k hk => by
      by_cases ek : k = 78
      · subst ek; rw [up_k]; exact a5.2.1.2.2.symm
      · rw [up_nk ek]; exact c2 k (by omega) (by omega)) (by rw [up_ne (by decide)]; exact c1 79 (by decide))
    rw [List.length_append] at q
    exact q
  · rw [c1 77 (by decide)]
    exact a6 b (gc_in.mp hb).1 j hj
  · rw [c79, c80, c81]
    exact p3
