/-! The reference does what BLOCKs say. -/
theorem bS_as {r : XS} {k k' : List Rw → Rho → XS} : bS (bS r k) k' = bS r (fun q ρ => bS (k q ρ) k') := by
  match r with
  | .error e => rfl
  | .ok (true, q, ρ) => rfl
  | .ok (false, q, ρ) => rfl
theorem take_map {L L0 : Sc} {Y : List TyR} (hL : Y.map (fun x => x.2) = L.map (fun x => x.2)) (hM : ∃ M, L = L0 ++ M) : (Y.take L0.length).map (fun x => x.2) = L0.map (fun x => x.2) := by
  obtain ⟨M, rfl⟩ := hM
  rw [List.map_take, hL, List.map_append, List.take_left' (by rw [List.length_map])]
theorem RX.cut {v0 v : Mem} {n z dp h : Nat} {J : Jb} {P : List Fr} {Y : List TyR} {ex : Nat} {ρ : Rho} (g : RX v0 n z dp 0 J (P ++ [(Y, ex, [])]) ρ v) (hh : h ≤ Y.length) : RX v0 n z dp 0 J (P ++ [(Y.take h, ex + (Y.length - h), [])]) (wH ρ (gc (flat (P ++ [(Y.take h, ex + (Y.length - h), [])])) z0 (rH ρ))) (up v 72 P.length (h : Int)) := by
  have e0 := g.n0
  have hX : tmps (P ++ [(Y, ex, [])]) = tmps P := by rw [tmps_1, List.append_nil]
  rw [hX] at e0
  obtain ⟨cu1, cu2, cu3⟩ := g.cur
  have l30 := cu1.2.1
  have tl : (Y.take h).length = h := by rw [List.length_take]; omega
  refine g.nfr (by rw [up_ne (by decide)]; exact e0) (fun k hk => by rw [up_ne (by decide)]) (fun c c1 c2 c3 => up_ne (by omega)) (fun c k hc hk => by rw [up_ne (by omega)]) (fun f hf => up_nk (by omega)) ⟨by rw [up_k, tl], by omega, fun k hk => ?_⟩ (fun p hp => ?_)
  · rw [tl] at hk
    rw [up_ne (by decide), up_ne (by decide), up_ne (by decide), up_ne (by decide)]
    have e1 : (Y.take h).getD k ((-1, 0, 0), 0) = Y.getD k ((-1, 0, 0), 0) := by
      have q := gd_app1 (l := Y.take h) (m := Y.drop h) (k := k) (d := ((-1, 0, 0), 0)) (by omega)
      rw [List.take_append_drop] at q
      exact q.symm
    rw [e1]
    exact cu1.2.2 k (by omega)
  · obtain ⟨x, hx, ex'⟩ := mem_rws hp
    exact live_Y (List.mem_of_mem_take hx) ex'
theorem RBk.u72 {v0 v : Mem} {n z dp : Nat} {J : Jb} {P : List Fr} {rt a : Int} {r : Rw} {ρ : Rho} (h : RBk v0 n z dp J P rt r ρ v) : RBk v0 n z dp J P rt r ρ (up v 72 P.length a) := by
  obtain ⟨⟨a1, a2, a3, a4⟩, ⟨b1, b2⟩, c1, c2, c3⟩ := h
  refine ⟨⟨a1.same (by rw [up_ne (by decide)]) (by rw [up_ne (by decide)]) (by rw [up_ne (by decide)]) (fun c hc => up_ne (by omega)), a2, a3.same (by rw [up_ne (by decide)]) (fun c hc => up_ne (by omega)), ?_⟩, ⟨by rw [up_ne (by decide)]; exact b1, ?_⟩, fun b hb j hj => by rw [up_ne (by decide)]; exact c1 b hb j hj, c2.trans (fun c c3 c4 => up_ne (by omega)) (fun k hk => by rw [up_ne (by decide)]), by rw [up_ne (by decide)]; exact c3⟩
  · have key : ∀ (R : List Fr) (f : Nat), f + R.length ≤ P.length → RLo v n J f R → RLo (up v 72 P.length a) n J f R := by
      intro R
      induction R with
      | nil => intro f _ _; trivial
      | cons x R ih =>
        intro f hf hR
        have hf : f + (R.length + 1) ≤ P.length := hf
        exact ⟨hR.1.same (up_nk (by omega)) (fun c k hc' k1 k2 => by rw [up_ne (by omega)]), ih (f + 1) (by omega) hR.2⟩
    exact key P 0 (by omega) a4
  · refine b2.same (fun k hk => ?_) (by rw [up_ne (by decide), up_ne (by decide), up_ne (by decide)])
    by_cases e : k = 78
    · subst e; rw [up_k, up_k]
    · rw [up_nk e, up_ne (by decide), up_nk e]
/-- the reference does as the S of a BLOCK say, L0 being in scope at its beginning -/
def HRl (t : Int) (v0 : Mem) (u : Nat → Int) (n z dp : Nat) (G : Fn) (tx : Nat → Int) (cl : XC) (F D sl : Nat) (rt : Int) (L : Sc) (b : Jvm.Term) (x : Int) : Prop := ∀ (P : List Fr) (Y : List TyR) (ex : Nat) (L0 : Sc) (J : Jb) (ρ : Rho) (v : Mem) (d : Nat) (Q : Int → Mem → Prop), (∃ M, L = L0 ++ M) → P.length = F → (tmps P).length ≤ 80 * F → RX v0 n z dp 0 J (P ++ [(Y, ex, [])]) ρ v → Y.map (fun x => x.2) = L.map (fun x => x.2) → Y.length + ex = sl → rK ρ ≤ 40 * rN ρ → D ≤ d → KRk v0 n z dp P sl L0 rt Q (bS (evB u n G tx z cl (flat P).length L b (flat (P ++ [(Y, ex, [])])) ρ) (fun S1 ρ1 => clE (flat P).length L0 (scB u n G L b) S1 ρ1)) → LL t (d + 1) 252 17 [(2, 38), (3, 0), (0, (F : Int)), (0, (L0.length : Int)), (0, x)] [] v Q
theorem HRl.go {t : Int} {v0 : Mem} {u : Nat → Int} {n z dp : Nat} {G : Fn} {tx : Nat → Int} {cl : XC} {F D sl : Nat} {rt : Int} {L : Sc} {b : Jvm.Term} {x : Int} (h : HRl t v0 u n z dp G tx cl F D sl rt L b x) : HRg t v0 u n z dp G tx cl F (D + 1) sl rt L b x := by
  intro P Y ex J ρ v d Q hF hP g hL hsl hK hd hq
  obtain ⟨d', rfl⟩ : ∃ d', d = d' + 1 := ⟨d - 1, by omega⟩
  obtain ⟨cu1, cu2, cu3⟩ := g.cur
  refine w_252 ?_
  rw [cu2, wNat (k := P.length) (a := ((P.length + 1 : Nat) : Int) - 1) (by omega) (by omega), Int.toNat_natCast, cu1.1, (tyL hL).1, hF]
  exact ⟨⟨by omega, by omega⟩, h P Y ex L J ρ v d' Q ⟨[], (List.append_nil _).symm⟩ hF hP g hL hsl hK (by omega) hq⟩
theorem gl_nil {t : Int} {v0 : Mem} {u : Nat → Int} {n z dp : Nat} {G : Fn} {tx : Nat → Int} {cl : XC} {F D sl : Nat} {rt : Int} {L : Sc} {b : Jvm.Term} (e1 : ∀ B S ρ, evB u n G tx z cl B L b S ρ = .ok (false, S, ρ)) (e2 : scB u n G L b = L) : HRl t v0 u n z dp G tx cl F D sl rt L b (-1) := by
  intro P Y ex L0 J ρ v d Q hM hF hP g hL hsl hK hd hq
  obtain ⟨cu1, cu2, cu3⟩ := g.cur
  have yl := (tyL hL).1
  have hl0 : L0.length ≤ Y.length := by
    obtain ⟨M, hM'⟩ := hM
    rw [yl, hM', List.length_append]; omega
  rw [e1, e2] at hq
  have hq : KRk v0 n z dp P sl L0 rt Q (okW (clrR (flat (P ++ [(Y, ex, [])])) ((flat P).length + L0.length) (L.length - L0.length)) ρ) := hq
  rw [← yl, flat_cut hl0] at hq
  refine w_252_17 ⟨fun _ => ⟨⟨by omega, by omega⟩, Or.inr rfl, ?_⟩, fun c => absurd (by decide) c⟩
  rw [Int.toNat_natCast, ← hF]
  exact hq _ _ J _ rfl (take_map hL hM) (by rw [List.length_take]; omega) (g.cut hl0)
/-- THE REFERENCE DOES AS S SAY -/
theorem HRl_all {t : Int} {v0 : Mem} {u : Nat → Int} {n z dp : Nat} {G : Fn} {tx : Nat → Int} {cl : XC} {F D sl : Nat} {rt : Int} (hn : n ≤ 3000) (htx : ∀ a, a < n → v0 40 a = tx a ∧ -128 ≤ tx a ∧ tx a < 128) (hG : FTy v0 G) (h6 : P6 G) (hcl : ∀ ci S ρ, rN ρ ≤ 20000 → okE 1 0 ρ (cl ci S ρ)) (hE : ∀ e, wfE (kd u n) false e → HRe t v0 u n z dp G tx cl F D e) (hD : 8 ≤ D) (hs30 : sl ≤ 30) : ∀ (N : Nat) (b : Jvm.Term), SizeOf.sizeOf b < N → wfS (kd u n) b → ∀ (h : Nat) (L : Sc) (m lo hi nlo nhi : Nat) (x : Int), hgS b h → bdS b h → nfB u n G L b = [] → tfB u n G rt L b = [] → L.length ≤ m → mxB u n G m L b ≤ sl → RS2 v0 u n G L b lo hi nlo nhi x → hi ≤ 300 → nhi ≤ 3300 → HRl t v0 u n z dp G tx cl F (D + 84 + 4 * h) sl rt L b x := by
  intro N
  induction N with
  | zero => intro e he; exact absurd he (Nat.not_lt_zero _)
  | succ N ih =>
    intro b hsz hw h L m lo hi nlo nhi x hg hd hnf htf hLm hmx hr h300 h3300
    unfold wfS at hw
    split at hw
    · have hr : lo ≤ hi ∧ nlo ≤ nhi ∧ x = -1 := hr
      obtain ⟨-, -, rfl⟩ := hr
      exact gl_nil (fun _ _ _ => rfl) rfl
    · have hr : lo ≤ hi ∧ nlo ≤ nhi ∧ x = -1 := hr
      obtain ⟨-, -, rfl⟩ := hr
      exact gl_nil (fun _ _ _ => rfl) rfl
    · rename_i i e b c r
      obtain ⟨w1, w2, w3, w4, w5, w6, w7, w8, w9⟩ := hw
      have hd : ((sgn e ≤ 40 ∧ brk e ≤ 8) ∧ ∃ j, h = j + 1 ∧ bdS b j ∧ bdS c j) ∧ bdS r h := hd
      obtain ⟨⟨⟨d1, d2⟩, j, d3, d4, d5⟩, d6⟩ := hd
      have hg : (hgt e ≤ 40 ∧ ∃ j, h = j + 1 ∧ hgS b j ∧ hgS c j) ∧ hgS r h := hg
      obtain ⟨⟨g1, j', g3, g4, g5⟩, g6⟩ := hg
      have ej : j' = j := by omega
      subst ej
      have hmx : mxB u n G (if kd u n i = 19 then max m (L.length + 1) else mxB u n G (mxB u n G m L b) L c) (scB u n G L (.elem (.arg i) (.sub e (.sub b c)))) r ≤ sl := hmx
      have hnf : nfB u n G L (.elem (.arg i) (.sub e (.sub b c))) ++ nfB u n G (scB u n G L (.elem (.arg i) (.sub e (.sub b c)))) r = [] := hnf
      obtain ⟨nf1, nf2⟩ := List.append_eq_nil_iff.mp hnf
      have nf1 : (if kd u n i = 19 then (if slt L (vl u n (i + 1)) = -1 then [] else [ps u n (i + 1)]) ++ nfE u n G L e else if kd u n i = 2 then (if slt L (vl u n i) = -1 then [ps u n i] else []) ++ nfE u n G L e else nfE u n G L e ++ (nfB u n G L b ++ nfB u n G L c)) = [] := nf1
      have htf : tfB u n G rt L (.elem (.arg i) (.sub e (.sub b c))) ++ tfB u n G rt (scB u n G L (.elem (.arg i) (.sub e (.sub b c)))) r = [] := htf
      obtain ⟨tf1, tf2⟩ := List.append_eq_nil_iff.mp htf
      have tf1 : (if kd u n i = 19 ∨ kd u n i = 21 ∨ kd u n i = 12 then tfE u n G L [] e else if kd u n i = 2 then tfE u n G L [] e ++ wt (slT L (vl u n i)) (tyE u n G L e) (fstT u n e) else if kd u n i = 22 then tfE u n G L [] e ++ wt rt (tyE u n G L e) (fstT u n e) else (tfE u n G L [] e ++ wt 0 (tyE u n G L e) (fstT u n e)) ++ (tfB u n G rt L b ++ tfB u n G rt L c)) = [] := tf1
      obtain ⟨mm, m1, n1, n2, n3, X, q0, q1, q2, q3, q4, q5, q6, q7, q8, q49, q19, q2', q52, qe, q61, qb, qc, qr⟩ := hr
      subst q0
      have gm := mxB_ge (u := u) (n := n) (G := G) _ r (Nat.lt_succ_self _) (if kd u n i = 19 then max m (L.length + 1) else mxB u n G (mxB u n G m L b) L c) (scB u n G L (.elem (.arg i) (.sub e (.sub b c))))
      have gc1 := mxB_ge (u := u) (n := n) (G := G) _ c (Nat.lt_succ_self _) (mxB u n G m L b) L
      have gb1 := mxB_ge (u := u) (n := n) (G := G) _ b (Nat.lt_succ_self _) m L
      have nfe : nfE u n G L e = [] := by
        by_cases c19 : kd u n i = 19
        · rw [if_pos c19] at nf1
          exact (List.append_eq_nil_iff.mp nf1).2
        · rw [if_neg c19] at nf1
          by_cases c2 : kd u n i = 2
          · rw [if_pos c2] at nf1
            exact (List.append_eq_nil_iff.mp nf1).2
          · rw [if_neg c2] at nf1
            exact (List.append_eq_nil_iff.mp nf1).1
      have tfe : tfE u n G L [] e = [] := by
        by_cases cA : kd u n i = 19 ∨ kd u n i = 21 ∨ kd u n i = 12
        · rw [if_pos cA] at tf1
          exact tf1
        rw [if_neg cA] at tf1
        by_cases c2 : kd u n i = 2
        · rw [if_pos c2] at tf1
          exact (List.append_eq_nil_iff.mp tf1).1
        rw [if_neg c2] at tf1
        by_cases c22 : kd u n i = 22
        · rw [if_pos c22] at tf1
          exact (List.append_eq_nil_iff.mp tf1).1
        rw [if_neg c22] at tf1
        exact (List.append_eq_nil_iff.mp (List.append_eq_nil_iff.mp tf1).1).1
      have bnd := ((E_bnd (L := L) h6 _ e (Nat.lt_succ_self _)).1 w2 nfe).2.2
      have he := hE e w2
      have hscL : (scB u n G L (.elem (.arg i) (.sub e (.sub b c)))).length ≤ (if kd u n i = 19 then max m (L.length + 1) else mxB u n G (mxB u n G m L b) L c) := by
        show (if kd u n i = 19 then L ++ [(vl u n (i + 1), tyE u n G L e)] else L).length ≤ _
        by_cases c19 : kd u n i = 19
        · rw [if_pos c19, if_pos c19, List.length_append]
          show L.length + 1 ≤ _
          omega
        · rw [if_neg c19, if_neg c19]
          omega
      have hrl := ih r (by simp at hsz; omega) w9 h (scB u n G L (.elem (.arg i) (.sub e (.sub b c)))) _ mm hi n3 nhi (v0 55 lo) g6 d6 nf2 tf2 hscL hmx qr h300 h3300
      intro P Y ex L0 J ρ v d Q hM hF hP g hL hsl hK hdp hq
      have yl := (tyL hL).1
      obtain ⟨cu1, cu2, cu3⟩ := g.cur
      obtain ⟨d', rfl⟩ : ∃ d', d = d' + 1 := ⟨d - 1, by omega⟩
      have nl : 0 ≤ (lo : Int) ∧ (lo : Int) < 300 := ⟨by omega, by omega⟩
      have e78 : v 38 78 = 0 := g.2.2.2.2.1.2.1.2.2
      have hq : KRk v0 n z dp P sl L0 rt Q (bS (bS (evB u n G tx z cl (flat P).length L (.elem (.arg i) (.sub e (.sub b c))) (flat (P ++ [(Y, ex, [])])) ρ) (fun S1 ρ1 => evB u n G tx z cl (flat P).length (scB u n G L (.elem (.arg i) (.sub e (.sub b c)))) r S1 ρ1)) (fun S1 ρ1 => clE (flat P).length L0 (scB u n G (scB u n G L (.elem (.arg i) (.sub e (.sub b c)))) r) S1 ρ1)) := hq
      rw [bS_as] at hq
      have wf1 : wfS (kd u n) (.sub (.elem (.arg i) (.sub e (.sub b c))) .null) := ⟨w1, w2, w3, w4, w5, w6, w7, w8, trivial⟩
      have bd1 : bdS (.sub (.elem (.arg i) (.sub e (.sub b c))) .null) h := ⟨⟨⟨d1, d2⟩, j', d3, d4, d5⟩, trivial⟩
      have ok : oKS (flat P).length 0 (flat (P ++ [(Y, ex, [])])) ρ (bS (evB u n G tx z cl (flat P).length L (.elem (.arg i) (.sub e (.sub b c))) (flat (P ++ [(Y, ex, [])])) ρ) (fun S1 ρ1 => .ok (false, S1, ρ1))) := evB_ok hcl _ _ (Nat.lt_succ_self _) wf1 h bd1 L (flat (P ++ [(Y, ex, [])])) ρ g.nle
      obtain ⟨body, hbody⟩ : ∃ body, evB u n G tx z cl (flat P).length L (.elem (.arg i) (.sub e (.sub b c))) (flat (P ++ [(Y, ex, [])])) ρ = stP ρ body := ⟨_, rfl⟩
      rw [hbody] at hq ok
      unfold stP at hq ok
      refine w_252_17 ⟨fun c => absurd c (by omega), fun _ => ⟨fun _ => step_rr g (fun c20 v' gg => ?_) (fun c20 v1 h1 => ?_), fun c => absurd e78 c⟩⟩
      · rw [if_pos c20] at hq
        exact ⟨fun _ => ⟨Or.inl rfl, hq v' gg⟩, fun c => absurd rfl c⟩
      rw [if_neg c20] at hq ok
      refine ⟨fun c => absurd c (by decide), fun _ => ?_⟩
      have hN := g.nle
      -- what follows behind this S
      have hS : KRk v0 n z dp P sl (scB u n G L (.elem (.arg i) (.sub e (.sub b c)))) rt (fun x2 v2 => (x2 = 0 → ((0 : Int) = 0 ∨ (0 : Int) = 1) ∧ Q 0 v2) ∧ (¬ x2 = 0 → (0 ≤ (lo : Int) ∧ (lo : Int) < 300) ∧ LL t (d' + 1 + 1) 252 17 [(2, 38), (3, 0), (0, (F : Int)), (0, (L0.length : Int)), (0, v2 55 (Int.toNat (lo : Int)))] [] v2 Q)) (body (wN ρ (rN ρ + 1))) := by
        refine hq.bnd (fun S1 ρ1 Y' ex' J' v' er hk eS hL' hs' h' => ⟨fun c => absurd c (by decide), fun _ => ⟨nl, ?_⟩⟩) (fun r1 ρ' J' v' hQ gb => ⟨fun c => absurd c (by decide), fun _ => ⟨nl, ?_⟩⟩) (fun v' gq => ⟨fun _ => ⟨Or.inl rfl, gq⟩, fun c => absurd rfl c⟩)
        · rw [er] at ok
          have ok : oKS (flat P).length 0 (flat (P ++ [(Y, ex, [])])) ρ (.ok (false, S1, ρ1)) := ok
          obtain ⟨⟨o1, o2, o3⟩, -, -⟩ := ok
          rw [Int.toNat_natCast, h'.fx (c := 55) (by decide) (by decide)]
          subst eS
          obtain ⟨M, hM'⟩ := hM
          obtain ⟨M2, hM2⟩ := scB_pre (u := u) (n := n) (G := G) (.elem (.arg i) (.sub e (.sub b c))) L
          exact hrl P Y' ex' L0 J' ρ1 v' (d' + 1) Q ⟨M ++ M2, by rw [hM2, hM', List.append_assoc]⟩ hF hP h' hL' hs' (by omega) (by omega) hk
        · have e78' : v' 38 78 = 1 := gb.2.1.1
          have fin : ((0 : Int) ≤ (F : Int) ∧ (F : Int) < 12) ∧ (((1 : Int) = 0 ∨ (1 : Int) = 1) ∧ Q 1 (up v' 72 (Int.toNat (F : Int)) (L0.length : Int))) := by
            refine ⟨⟨by omega, by omega⟩, Or.inr rfl, ?_⟩
            rw [Int.toNat_natCast, ← hF]
            exact hQ J' _ gb.u72
          exact w_252_17 ⟨fun _ => fin, fun _ => ⟨fun c => absurd c (by rw [e78']; decide), fun _ => fin⟩⟩
      have hTe : (tmps P).length + tdE 0 e ≤ 80 * (F + 1) := by omega
      have hK1 : rK (wN ρ (rN ρ + 1)) + sgn e ≤ 40 * rN (wN ρ (rN ρ + 1)) := by show rK ρ + sgn e ≤ 40 * (rN ρ + 1); omega
      have scE : scB u n G L (.elem (.arg i) (.sub e (.sub b c))) = (if kd u n i = 19 then L ++ [(vl u n (i + 1), tyE u n G L e)] else L) := rfl
      rw [scE] at hS
      by_cases c25 : kd u n i = 25
      · have ct : c = .thrown := w5 (by omega)
        subst ct
        rw [ev_while c25] at hbody
        have eb : body (wN ρ (rN ρ + 1)) = whl (fun S ρ => bES (evE u n G tx z cl (flat P).length L e S ρ) (fun q ρ1 => .ok (false, q, ρ1))) (fun S ρ => bS (evB u n G tx z cl (flat P).length L b S ρ) (fun S1 ρ1 => clE (flat P).length L (scB u n G L b) S1 ρ1)) 20001 (flat (P ++ [(Y, ex, [])])) (wN ρ (rN ρ + 1)) := by
          unfold stP at hbody
          rw [if_neg c20, if_neg c20] at hbody
          exact hbody.symm
        rw [eb, if_neg (by omega)] at hS
        rw [if_neg (by omega), if_neg (by omega), if_neg (by omega)] at tf1
        obtain ⟨tA, tB⟩ := List.append_eq_nil_iff.mp tf1
        rw [if_neg (by omega), if_neg (by omega)] at nf1
        obtain ⟨-, nfbc⟩ := List.append_eq_nil_iff.mp nf1
        have k49 : v0 49 lo = 4 := by rw [q49, c25]; rfl
        rw [if_neg (by omega)] at gm hmx
        have hgb := (ih b (by simp at hsz; omega) w7 j' L m (lo + 1) m1 n1 n2 (v0 53 lo) g4 d4 (List.append_eq_nil_iff.mp nfbc).1 (List.append_eq_nil_iff.mp tB).1 hLm (by omega) qb (by omega) (by omega)).go
        exact gs_while hcl w2 w7 d4 d1 he hF hP h1 hL hsl (by omega) k49 q52 qe (by omega) nfe tfe (wt_nil (List.append_eq_nil_iff.mp tA).2) hK1 hTe (by omega) hgb (by omega) (by omega) hS
      have ev := ev_elem (u := u) (n := n) (G := G) (tx := tx) (z := z) (cl := cl) (B := (flat P).length) (L := L) (e := e) (b := b) (c := c) (S := flat (P ++ [(Y, ex, [])])) (ρ := ρ) c25
      rw [ev] at hbody
      unfold stP at hbody
      rw [if_neg c20, if_neg c20] at hbody
      rw [← hbody] at hS
      by_cases c19 : kd u n i = 19
      · rw [if_pos c19] at gm hmx hS
        have k49 : v0 49 lo = 1 := by rw [q49, c19]; rfl
        refine gs_let (rt := rt) hG w2 he hF h1 hL hsl (by omega) hs30 (by omega) k49 (q19 c19).2.2 q52 qe (by omega) nfe tfe hK1 hTe (by omega) (nm := vl u n (i + 1)) ?_ (by omega)
        have e0 : (fun (q : List Rw) (ρ1 : Rho) => if kd u n i = 19 then okW ((flat (P ++ [(Y, ex, [])])).set ((flat P).length + L.length) (g2 q 0)) ρ1 else if kd u n i = 2 then okW ((flat (P ++ [(Y, ex, [])])).set ((flat P).length + (slt L (vl u n i)).toNat) (g2 q 0)) ρ1 else if kd u n i = 22 then .ok (true, [g2 q 0], wH ρ1 (gc ((flat (P ++ [(Y, ex, [])])).take (flat P).length ++ [g2 q 0]) z0 (rH ρ1))) else if kd u n i = 21 then (if tyE u n G L e = 0 then tlE (flat (P ++ [(Y, ex, [])])) (dcl (g2 q 0).2.1) (dch (g2 q 0).2.1) ρ1 else tlE (flat (P ++ [(Y, ex, [])])) (g2 q 0).2.2.toNat (fun j => bt tx (rB ρ1) ((g2 q 0).2.1.toNat + j)) ρ1) else if kd u n i = 12 then okW (flat (P ++ [(Y, ex, [])])) ρ1 else if (g2 q 0).2.1 = 0 then bS (evB u n G tx z cl (flat P).length L c (flat (P ++ [(Y, ex, [])])) (wH ρ1 (gc (flat (P ++ [(Y, ex, [])])) z0 (rH ρ1)))) (fun S1 ρ2 => clE (flat P).length L (scB u n G L c) S1 ρ2) else bS (evB u n G tx z cl (flat P).length L b (flat (P ++ [(Y, ex, [])])) (wH ρ1 (gc (flat (P ++ [(Y, ex, [])])) z0 (rH ρ1)))) (fun S1 ρ2 => clE (flat P).length L (scB u n G L b) S1 ρ2)) = (fun q ρ1 => okW ((flat (P ++ [(Y, ex, [])])).set ((flat P).length + L.length) (g2 q 0)) ρ1) := by
          funext q ρ1
          rw [if_pos c19]
        rw [e0] at hS
        exact hS
      rw [if_neg c19] at gm hmx hS nf1
      by_cases c2 : kd u n i = 2
      · rw [if_neg (by omega), if_pos c2] at tf1
        obtain ⟨p1, p2⟩ := q2' c2
        have k49 : v0 49 lo = 2 := by rw [q49, c2]; rfl
        rcases fndA_r (fun k => (L.getD k (0, 0)).1) (vl u n i) L.length 0 with gg | ⟨jj, f1, f3, f4, -⟩
        · exact absurd gg p2
        have f1 : slt L (vl u n i) = (jj : Int) := f1
        have ty2 := wt_nil (List.append_eq_nil_iff.mp tf1).2
        unfold slT at ty2
        rw [f1, if_neg (by omega), Int.toNat_natCast] at ty2
        rw [f1] at p1
        refine gs_give (rt := rt) he hF h1 hL hsl (by omega) ty2 (by omega) k49 p1 q52 qe (by omega) nfe tfe hK1 hTe (by omega) ?_ (by omega)
        conv at hS => rhs; simp only [if_neg c19, if_pos c2, f1, Int.toNat_natCast]
        exact hS
      rw [if_neg c2] at nf1
      obtain ⟨-, nfbc⟩ := List.append_eq_nil_iff.mp nf1
      obtain ⟨nfb, nfc⟩ := List.append_eq_nil_iff.mp nfbc
      by_cases c22 : kd u n i = 22
      · rw [if_neg (by omega), if_neg c2, if_pos c22] at tf1
        have k49 : v0 49 lo = 5 := by rw [q49, c22]; rfl
        refine gs_ret he hF h1 hL (by omega) k49 q52 qe (by omega) nfe tfe (wt_nil (List.append_eq_nil_iff.mp tf1).2) hK1 hTe (by omega) (L' := L) (sl := sl) (i := 0) ?_ (by omega)
        conv at hS => rhs; simp only [if_neg c19, if_neg c2, if_pos c22]
        exact hS
      by_cases c21 : kd u n i = 21
      · have k49 : v0 49 lo = 6 := by rw [q49, c21]; rfl
        refine gs_print (rt := rt) hn htx hG w2 he hF h1 hL hsl (by omega) k49 q52 qe (by omega) nfe tfe hK1 hTe (by omega) ?_ (by omega)
        conv at hS => rhs; simp only [if_neg c19, if_neg c2, if_neg c22, if_pos c21]
        exact hS
      by_cases c12 : kd u n i = 12
      · have k49 : v0 49 lo = 7 := by rw [q49, c12]; rfl
        refine gs_do (rt := rt) (i := 0) he hF h1 hL hsl (by omega) k49 q52 qe (by omega) nfe tfe hK1 hTe (by omega) ?_ (by omega)
        conv at hS => rhs; simp only [if_neg c19, if_neg c2, if_neg c22, if_neg c21, if_pos c12]
        exact hS
      have c16 : kd u n i = 16 := by
        unfold skd at w1
        rw [if_neg c19, if_neg c2] at w1
        by_cases q : kd u n i = 16
        · exact q
        · rw [if_neg q, if_neg c25, if_neg c22, if_neg c21, if_neg c12] at w1
          exact absurd rfl w1
      rw [if_neg (by omega), if_neg c2, if_neg c22] at tf1
      obtain ⟨tA, tB⟩ := List.append_eq_nil_iff.mp tf1
      have k49 : v0 49 lo = 3 := by rw [q49, c16]; rfl
      have hgb := (ih b (by simp at hsz; omega) w7 j' L m (lo + 1) m1 n1 n2 (v0 53 lo) g4 d4 nfb (List.append_eq_nil_iff.mp tB).1 hLm (by omega) qb (by omega) (by omega)).go
      have hgc := (ih c (by simp at hsz; omega) w8 j' L (mxB u n G m L b) m1 mm n2 n3 (v0 54 lo) g5 d5 nfc (List.append_eq_nil_iff.mp tB).2 (by omega) (by omega) qc (by omega) (by omega)).go
      refine gs_if (rt := rt) hcl w2 he hF hP h1 hL hsl (by omega) k49 q52 qe (by omega) nfe tfe (wt_nil (List.append_eq_nil_iff.mp tA).2) hK1 hTe (by omega) hgb hgc (by omega) ?_
      conv at hS => rhs; simp only [if_neg c19, if_neg c2, if_neg c22, if_neg c21, if_neg c12]
      exact hS
    · exact hw.elim
