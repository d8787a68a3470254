/-! The reference works an E out: E by E. -/
theorem RX.nle {v0 v : Mem} {n z dp : Nat} {en : Int} {J : Jb} {FS : List Fr} {ρ : Rho} (h : RX v0 n z dp en J FS ρ v) : rN ρ ≤ 20000 := h.2.2.2.2.1.2.2.2.1.1
theorem wt_nil {a b p : Int} (h : wt a b p = []) : a = b := by
  unfold wt at h
  split at h
  · assumption
  · cases h
theorem he_two {t : Int} {v0 : Mem} {u : Nat → Int} {n z dp : Nat} {G : Fn} {tx : Nat → Int} {cl : XC} {F D : Nat} {l r : Jvm.Term} (hcl : ∀ ci S ρ, rN ρ ≤ 20000 → okE 1 0 ρ (cl ci S ρ)) (hl : HRe t v0 u n z dp G tx cl F D l) (hr : HRe t v0 u n z dp G tx cl F D r) (wl : wfE (kd u n) false l) (wr : wfE (kd u n) false r)
    {P : List Fr} {Y X X0 : List TyR} {ex : Nat} {L : Sc} {J : Jb} {ρ : Rho} {v : Mem} {lo m lo' hi' k s d : Nat} {y zz ty : Int} {Q : Int → Mem → Prop} {kk : List Rw → List Rw → Rho → XE} {C : Mem → Prop} (hF : P.length = F) (h : RX v0 n z dp 0 J (P ++ [(Y, ex, X)]) ρ v) (hL : Y.map (fun x => x.2) = L.map (fun x => x.2)) (r1 : RN2 v0 u n G L l lo m y) (m33 : m ≤ 3300) (e59 : v0 59 k = zz) (r2 : RN2 v0 u n G L r lo' hi' zz) (h33 : hi' ≤ 3300) (n1 : nfE u n G L l = []) (n2 : nfE u n G L r = []) (t1 : tfE u n G L [] l = []) (t2 : tfE u n G L [] r = []) (hK : rK ρ + (sgn l + sgn r + s) ≤ 40 * rN ρ) (hT1 : (tmps (P ++ [(Y, ex, X)])).length + tdE 0 l ≤ 80 * (F + 1)) (hT2 : (tmps (P ++ [(Y, ex, X)])).length + (1 + tdE 0 r) ≤ 80 * (F + 1)) (hd1 : D + 2 * hgt l ≤ d) (hd2 : D + 2 * hgt r ≤ d)
    (hq : KRe v0 n z dp P Y ex X0 ty Q (bE (evE u n G tx z cl (flat P).length L l (flat (P ++ [(Y, ex, X)])) ρ) (fun q ρ1 => bE (evE u n G tx z cl (flat P).length L r (flat (P ++ [(Y, ex, X)]) ++ q) ρ1) (fun q2 ρ2 => kk q q2 ρ2))))
    (fin : ∀ a b ρ2 J2 v2, KRe v0 n z dp P Y ex X0 ty Q (kk [a] [b] ρ2) → RX v0 n z dp 0 J2 (P ++ [(Y, ex, X ++ [(a, tyE u n G L l), (b, tyE u n G L r)])]) ρ2 v2 → rK ρ2 + s ≤ 40 * rN ρ2 → C v2) :
    RR t d 238 [(2, 38), (0, y)] v (fun x1 v1 => (x1 = 0 → ((0 : Int) = 0 ∨ (0 : Int) = 1) ∧ Q 0 v1) ∧ (¬ x1 = 0 → RR t d 238 [(2, 38), (0, v1 59 k)] v1 (fun x2 v2 => (x2 = 0 → ((0 : Int) = 0 ∨ (0 : Int) = 1) ∧ Q 0 v2) ∧ (¬ x2 = 0 → C v2)))) := by
  refine hl P Y X ex L J ρ v lo m y d _ hF h hL r1 m33 n1 t1 (by omega) hT1 hd1 (hq.bnd (fun a ρ1 J1 v1 er hk h1 => ?_))
  have ok := (evE_ok (tx := tx) (z := z) (B := (flat P).length) (L := L) (G := G) hcl _ l (Nat.lt_succ_self _)).1 wl (flat (P ++ [(Y, ex, X)])) ρ h.nle
  rw [er] at ok
  have o1 : rN ρ ≤ rN ρ1 := ok.2.1
  have o2 : rK ρ1 + 40 * rN ρ ≤ rK ρ + 40 * rN ρ1 + sgn l := ok.2.2.2
  have e1 : v1 59 k = zz := by rw [h1.fx (by decide) (by decide)]; exact e59
  rw [e1]
  refine hr P Y (X ++ [(a, tyE u n G L l)]) ex L J1 ρ1 v1 lo' hi' zz d _ hF h1 hL r2 h33 n2 t2 (by omega) (by rw [tmps_T, List.length_append]; show _ + 1 + _ ≤ _; omega) hd2 ?_
  rw [flat_T]
  refine hk.bnd (fun b ρ2 J2 v2 er2 hk2 h2 => ?_)
  have ok2 := (evE_ok (tx := tx) (z := z) (B := (flat P).length) (L := L) (G := G) hcl _ r (Nat.lt_succ_self _)).1 wr (flat (P ++ [(Y, ex, X)]) ++ [a]) ρ1 h1.nle
  rw [show evE u n G tx z cl (flat P).length L r (flat (P ++ [(Y, ex, X)]) ++ [a]) ρ1 = .ok ([b], ρ2) from er2] at ok2
  have o3 : rN ρ1 ≤ rN ρ2 := ok2.2.1
  have o4 : rK ρ2 + 40 * rN ρ1 ≤ rK ρ1 + 40 * rN ρ2 + sgn r := ok2.2.2.2
  rw [List.append_assoc] at h2
  exact fin a b ρ2 J2 v2 hk2 h2 (by omega)
theorem he_mul {t : Int} {v0 : Mem} {u : Nat → Int} {n z dp : Nat} {G : Fn} {tx : Nat → Int} {cl : XC} {F D i : Nat} {e : Jvm.Term} (hD : 8 ≤ D) (hi : kd u n i = 45 ∨ kd u n i = 33) (he : HRe t v0 u n z dp G tx cl F D e) : HRe t v0 u n z dp G tx cl F D (.mul (.arg i) e) := by
  intro P Y X ex L J ρ v lo hi' x d Q hF h hL hr h33 hnf htf hK hT hd hq
  have hd : D + 2 * (hgt e + 1) ≤ d := hd
  obtain ⟨d', rfl⟩ : ∃ d', d = d' + 1 := ⟨d - 1, by omega⟩
  obtain ⟨k, y, rfl, k1, k2, k3, k4, k5, k6, k7⟩ := hr
  have hK : rK ρ + (sgn e + 1) ≤ 40 * rN ρ := hK
  have htf : tfE u n G L [] e ++ wt 0 (tyE u n G L e) (fstT u n e) = [] := htf
  obtain ⟨t1, t2⟩ := List.append_eq_nil_iff.mp htf
  have ty := wt_nil t2
  have hq : KRe v0 n z dp P Y ex X 0 Q (bE (evE u n G tx z cl (flat P).length L e (flat (P ++ [(Y, ex, X)])) ρ) (fun q ρ1 => frE (kd u n i) (flat (P ++ [(Y, ex, X)])) (g2 q 0) ρ1)) := hq
  have e57 : v 57 k = (if kd u n i = 45 then 5 else 6) := by rw [h.fx (by decide) (by decide)]; exact k4
  refine ev_one (by omega) e57 (by split <;> omega) ?_
  have e58 : v 58 k = y := by rw [h.fx (by decide) (by decide)]; exact k5
  rw [e58]
  refine he P Y X ex L J ρ v lo k y d' _ hF h hL k6 (by omega) hnf t1 (by omega) hT (by omega) (hq.bnd (fun a ρ1 J1 v1 er hk h1 => ?_))
  rw [← ty] at h1
  exact ev_num (by split <;> omega) (RR.deep (d := 0 + 3) (nm_front hi h1 hk.b01) (by omega))
theorem he_settle {t : Int} {v0 : Mem} {u : Nat → Int} {n z dp : Nat} {G : Fn} {tx : Nat → Int} {cl : XC} {F D i : Nat} {l r : Jvm.Term} (hcl : ∀ ci S ρ, rN ρ ≤ 20000 → okE 1 0 ρ (cl ci S ρ)) (hD : 8 ≤ D) (hi : kd u n i = 20 ∨ kd u n i = 10) (hl : HRe t v0 u n z dp G tx cl F D l) (hr : HRe t v0 u n z dp G tx cl F D r) (wl : wfE (kd u n) false l) : HRe t v0 u n z dp G tx cl F D (.add (.arg i) (.sub l r)) := by
  intro P Y X ex L J ρ v lo hi' x d Q hF h hL hr2 h33 hnf htf hK hT hd hq
  have hd : D + 2 * (max (hgt l) (hgt r) + 1) ≤ d := hd
  obtain ⟨d', rfl⟩ : ∃ d', d = d' + 1 := ⟨d - 1, by omega⟩
  obtain ⟨k, y, zz, m, rfl, k1, k2, k3, k4, k5, k6, k7, k8, k9, k10, k11, k12⟩ := hr2
  have hK : rK ρ + (sgn l + sgn r + 1) ≤ 40 * rN ρ := hK
  have hT : (tmps (P ++ [(Y, ex, X)])).length + max (tdE 0 l) (1 + tdE 0 r) ≤ 80 * (F + 1) := hT
  have hnf : nfE u n G L l ++ nfE u n G L r = [] := hnf
  obtain ⟨n1, n2⟩ := List.append_eq_nil_iff.mp hnf
  have lv : lvl (kd u n i) ≤ 1 := by
    rcases hi with c | c
    · rw [c]; decide
    · rw [c]; decide
  have htf : (if lvl (kd u n i) = 2 then _ else tfE u n G L [] l ++ (wt (if kd u n i = 38 then 1 else 0) (tyE u n G L l) (fstT u n l) ++ (tfE u n G L [] r ++ wt (if kd u n i = 38 then 1 else 0) (tyE u n G L r) (fstT u n r)))) = [] := htf
  rw [if_neg (by omega), if_neg (by omega)] at htf
  obtain ⟨t1, t234⟩ := List.append_eq_nil_iff.mp htf
  obtain ⟨t2, t34⟩ := List.append_eq_nil_iff.mp t234
  obtain ⟨t3, t4⟩ := List.append_eq_nil_iff.mp t34
  have tyl := wt_nil t2
  have tyr := wt_nil t4
  have hq : KRe v0 n z dp P Y ex X (if kd u n i = 38 then 1 else 0) Q (if lvl (kd u n i) ≤ 1 then bE (evE u n G tx z cl (flat P).length L l (flat (P ++ [(Y, ex, X)])) ρ) (fun q ρ1 => if tr (g2 q 0).2.1 = (if kd u n i = 20 then 1 else 0) then rtE (flat (P ++ [(Y, ex, X)])) (-1, tr (g2 q 0).2.1, 0) ρ1 else bE (evE u n G tx z cl (flat P).length L r (flat (P ++ [(Y, ex, X)])) (wH ρ1 (gc (flat (P ++ [(Y, ex, X)])) z0 (rH ρ1)))) (fun q2 ρ2 => rtE (flat (P ++ [(Y, ex, X)])) (-1, tr (g2 q2 0).2.1, 0) ρ2)) else _) := hq
  rw [if_pos lv, if_neg (by omega)] at hq
  have nk : 0 ≤ (k : Int) ∧ (k : Int) < 3300 := ⟨by omega, by omega⟩
  have K78 : opc (kd u n i) = (if kd u n i = 20 then 7 else 8) := by
    rcases hi with c | c
    · rw [c]; rfl
    · rw [c]; rfl
  have e57 : v 57 k = (if kd u n i = 20 then 7 else 8) := by rw [h.fx (by decide) (by decide), ← K78]; exact k6
  have e58 : v 58 k = y := by rw [h.fx (by decide) (by decide)]; exact k7
  refine w_238 ⟨nk, ?_⟩
  rw [Int.toNat_natCast, e57, e58]
  refine ⟨fun c => absurd c (by split <;> omega), fun _ => ⟨fun c => absurd c (by split <;> omega), fun _ => ⟨fun c => absurd c (by split <;> omega), fun _ => ⟨fun c => absurd c (by split <;> omega), fun _ => ⟨nk, ?_⟩⟩⟩⟩⟩
  refine hl P Y X ex L J ρ v lo m y d' _ hF h hL k9 (by omega) n1 t1 (by omega) (by omega) (by omega) (hq.bnd (fun a ρ1 J1 v1 er hk h1 => ?_))
  have ok := (evE_ok (tx := tx) (z := z) (B := (flat P).length) (L := L) (G := G) hcl _ l (Nat.lt_succ_self _)).1 wl (flat (P ++ [(Y, ex, X)])) ρ h.nle
  rw [er] at ok
  have o1 : rN ρ ≤ rN ρ1 := ok.2.1
  have o2 : rK ρ1 + 40 * rN ρ ≤ rK ρ + 40 * rN ρ1 + sgn l := ok.2.2.2
  rw [← tyl] at h1
  have b1 := h1.n52.1
  have b2 := h1.n52.2
  generalize hN : (tmps (P ++ [(Y, ex, X)])).length = N at *
  have b1 : v1 38 52 = ((N + 1 : Nat) : Int) := b1
  have b2 : N + 1 ≤ 1500 := b2
  have g := h1.get (k := 0) (by show 0 < 1; decide)
  rw [hN, Nat.add_zero] at g
  have g : rrw J1 n a 0 (v1 66 N) (v1 67 N) (v1 68 N) := g
  have ha : a.2.1 = v1 68 N := by rw [(rrw.i0 g).1]
  have hk : KRe v0 n z dp P Y ex X 0 Q (if tr a.2.1 = (if kd u n i = 20 then 1 else 0) then rtE (flat (P ++ [(Y, ex, X)])) (-1, tr a.2.1, 0) ρ1 else bE (evE u n G tx z cl (flat P).length L r (flat (P ++ [(Y, ex, X)])) (wH ρ1 (gc (flat (P ++ [(Y, ex, X)])) z0 (rH ρ1)))) (fun q2 ρ2 => rtE (flat (P ++ [(Y, ex, X)])) (-1, tr (g2 q2 0).2.1, 0) ρ2)) := hk
  rw [ha] at hk
  have nd : 0 ≤ (N : Int) ∧ (N : Int) < 1500 := ⟨by omega, by omega⟩
  have drop := h1.drop (v' := up v1 38 52 (N : Int)) (by rw [up_k, hN]) (fun k hk => up_nk hk) (fun c hc => up_ne hc)
  have e59 : up v1 38 52 (N : Int) 59 k = zz := by rw [up_ne (by decide), h1.fx (by decide) (by decide)]; exact k8
  -- the right part
  have right : ¬ tr (v1 68 N) = (if kd u n i = 20 then 1 else 0) → RR t d' 238 [(2, 38), (0, v1 59 k)] (up v1 38 52 (N : Int)) (fun x2 v2 => (x2 = 0 → ((0 : Int) = 0 ∨ (0 : Int) = 1) ∧ Q 0 v2) ∧ (¬ x2 = 0 → (0 ≤ (w32 ((v2 38 52) - 1)) ∧ (w32 ((v2 38 52) - 1)) < 1500) ∧ ((v2 68 (Int.toNat (w32 ((v2 38 52) - 1)))) = 0 → (0 ≤ (w32 ((v2 38 52) - 1)) ∧ (w32 ((v2 38 52) - 1)) < 1500) ∧ ((1 : Int) = 0 ∨ (1 : Int) = 1) ∧ Q 1 (up v2 68 (Int.toNat (w32 ((v2 38 52) - 1))) 0)) ∧ (¬ (v2 68 (Int.toNat (w32 ((v2 38 52) - 1)))) = 0 → (0 ≤ (w32 ((v2 38 52) - 1)) ∧ (w32 ((v2 38 52) - 1)) < 1500) ∧ ((1 : Int) = 0 ∨ (1 : Int) = 1) ∧ Q 1 (up v2 68 (Int.toNat (w32 ((v2 38 52) - 1))) 1)))) := by
    intro c
    rw [if_neg c] at hk
    have e59' : v1 59 k = zz := by rw [h1.fx (by decide) (by decide)]; exact k8
    rw [e59']
    refine hr P Y X ex L J1 _ _ m k zz d' _ hF drop hL k11 (by omega) n2 t3 (by show rK ρ1 + sgn r ≤ 40 * rN ρ1; omega) (by omega) (by omega) (hk.bnd (fun b ρ2 J2 v2 er2 hk2 h2 => ?_))
    rw [← tyr] at h2
    have c1 := h2.n52.1
    rw [hN] at c1
    have c1 : v2 38 52 = ((N + 1 : Nat) : Int) := c1
    have g2' := h2.get (k := 0) (by show 0 < 1; decide)
    rw [hN, Nat.add_zero] at g2'
    have g2' : rrw J2 n b 0 (v2 66 N) (v2 67 N) (v2 68 N) := g2'
    have hb : b.2.1 = v2 68 N := by rw [(rrw.i0 g2').1]
    have hk2 : KRe v0 n z dp P Y ex X 0 Q (rtE (flat (P ++ [(Y, ex, X)])) (-1, tr b.2.1, 0) ρ2) := hk2
    rw [hb] at hk2
    rw [c1, wtp (A := N + 1) (B := N) (j := 1) (by omega) (by omega) (by omega), Int.toNat_natCast]
    refine ⟨nd, fun c0 => ⟨nd, Or.inr rfl, ?_⟩, fun c0 => ⟨nd, Or.inr rfl, ?_⟩⟩
    · have et : tr (v2 68 N) = 0 := by unfold tr; rw [if_pos c0]
      rw [et] at hk2
      exact hk2.ret (h2.in68 hN (by decide) (by decide))
    · have et : tr (v2 68 N) = 1 := by unfold tr; rw [if_neg c0]
      rw [et] at hk2
      exact hk2.ret (h2.in68 hN (by decide) (by decide))
  have main : LL t (d' + 1) 238 145 [(2, 38), (0, (k : Int)), (0, (if kd u n i = 20 then 7 else 8)), (3, 0)] [] v1 Q := by
    refine w_238_145 ?_
    rw [b1, wtp (A := N + 1) (B := N) (j := 1) (by omega) (by omega) (by omega), Int.toNat_natCast]
    refine ⟨nd, fun c0 => w_238_164 ?_, fun c0 => w_238_164 ?_⟩
    · have et : tr (v1 68 N) = 0 := by unfold tr; rw [if_pos c0]
      rw [b1, wtp (A := N + 1) (B := N) (j := 1) (by omega) (by omega) (by omega), Int.toNat_natCast, Int.toNat_natCast]
      rw [et] at hk right
      rcases hi with c | c
      · rw [if_pos c] at hk right ⊢
        exact ⟨fun _ => ⟨fun c => absurd c (by decide), fun _ => ⟨nk, right (by decide)⟩⟩, fun c => absurd rfl c⟩
      · have c' : ¬ kd u n i = 20 := by omega
        rw [if_neg c'] at hk right ⊢
        rw [if_pos rfl] at hk
        exact ⟨fun c => absurd c (by decide), fun _ => ⟨fun _ => ⟨fun c => absurd c (by decide), fun _ => ⟨nd, Or.inr rfl, hk.ret (h1.in68 hN (by decide) (by decide))⟩⟩, fun c => absurd rfl c⟩⟩
    · have et : tr (v1 68 N) = 1 := by unfold tr; rw [if_neg c0]
      rw [b1, wtp (A := N + 1) (B := N) (j := 1) (by omega) (by omega) (by omega), Int.toNat_natCast, Int.toNat_natCast]
      rw [et] at hk right
      rcases hi with c | c
      · rw [if_pos c] at hk right ⊢
        rw [if_pos rfl] at hk
        exact ⟨fun _ => ⟨fun _ => ⟨fun _ => ⟨nd, Or.inr rfl, hk.ret (h1.in68 hN (by decide) (by decide))⟩, fun c => absurd rfl c⟩, fun c => absurd rfl c⟩, fun c => absurd rfl c⟩
      · have c' : ¬ kd u n i = 20 := by omega
        rw [if_neg c'] at hk right ⊢
        exact ⟨fun c => absurd c (by decide), fun _ => ⟨fun c => absurd c (by decide), fun _ => ⟨nk, right (by decide)⟩⟩⟩
  rcases hi with c | c
  · rw [if_pos c] at main ⊢
    exact ⟨fun _ => main, fun c => absurd rfl c⟩
  · have c' : ¬ kd u n i = 20 := by omega
    rw [if_neg c'] at main ⊢
    exact ⟨fun c => absurd c (by decide), fun _ => ⟨fun _ => main, fun c => absurd rfl c⟩⟩
