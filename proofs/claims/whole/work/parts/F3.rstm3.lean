/-! The reference does what S say: let, a new value, print, if, while. -/
theorem set_same {l : List Int} {d : Int} : ∀ (j : Nat), l.set j (l.getD j d) = l := by
  induction l with
  | nil => intro j; rfl
  | cons x l ih =>
    intro j
    match j with
    | 0 => rfl
    | j + 1 =>
      show x :: l.set j (l.getD j d) = x :: l
      rw [ih]
theorem getD_setT {Y : List TyR} {x : TyR} {d : TyR} : ∀ (j k : Nat), j < Y.length → (Y.set j x).getD k d = (if k = j then x else Y.getD k d) := by
  induction Y with
  | nil => intro j k h; exact absurd h (Nat.not_lt_zero _)
  | cons y Y ih =>
    intro j k h
    match j, k, h with
    | 0, 0, _ => rfl
    | 0, k + 1, _ => rw [if_neg (by omega)]; rfl
    | j + 1, 0, _ => rw [if_neg (by omega)]; rfl
    | j + 1, k + 1, h =>
      show (Y.set j x).getD k d = _
      rw [ih j k (by simp at h; omega)]
      by_cases c : k = j
      · rw [if_pos c, if_pos (by omega)]
      · rw [if_neg c, if_neg (by omega)]; rfl
theorem up_o {v : Mem} {c k c' k' : Nat} {a : Int} (h : ¬ (c' = c ∧ k' = k)) : up v c k a c' k' = v c' k' := by
  unfold up
  by_cases h1 : c' = c
  · rw [if_pos h1, if_neg (fun q => h ⟨h1, q⟩)]
  · rw [if_neg h1]
theorem gs_let {t : Int} {v0 : Mem} {u : Nat → Int} {n z dp : Nat} {G : Fn} {tx : Nat → Int} {cl : XC} {F D sl : Nat} {rt nm : Int} {e : Jvm.Term} {P : List Fr} {Y : List TyR} {ex lo nlo n1 d : Nat} {L : Sc} {J : Jb} {ρ : Rho} {v : Mem} {X0 : Int} {Q : Int → Mem → Prop} (hG : FTy v0 G) (we : wfE (kd u n) false e) (he : HRe t v0 u n z dp G tx cl F D e) (hF : P.length = F) (h : RX v0 n z dp 0 J (P ++ [(Y, ex, [])]) ρ v) (hL : Y.map (fun x => x.2) = L.map (fun x => x.2)) (hsl : Y.length + ex = sl) (hs1 : L.length < sl) (hs30 : sl ≤ 30) (hlo : lo < 300) (e49 : v0 49 lo = 1) (e56 : v0 56 lo = (L.length : Nat)) (e52 : v0 52 lo = X0) (hr : RN2 v0 u n G L e nlo n1 X0) (hn1 : n1 ≤ 3300) (nf : nfE u n G L e = []) (tf : tfE u n G L [] e = []) (hK : rK ρ + sgn e ≤ 40 * rN ρ) (hT : (tmps P).length + tdE 0 e ≤ 80 * (F + 1)) (hd : D + 2 * hgt e ≤ d) (hq : KRk v0 n z dp P sl (L ++ [(nm, tyE u n G L e)]) rt Q (bES (evE u n G tx z cl (flat P).length L e (flat (P ++ [(Y, ex, [])])) ρ) (fun q ρ1 => okW ((flat (P ++ [(Y, ex, [])])).set ((flat P).length + L.length) (g2 q 0)) ρ1))) (hd1 : 3 ≤ d) : RR t (d + 1) 253 [(2, 38), (0, (lo : Int))] v Q := by
  have nl : 0 ≤ (lo : Int) ∧ (lo : Int) < 300 := ⟨by omega, by omega⟩
  have hX : tmps (P ++ [(Y, ex, [])]) = tmps P := by rw [tmps_1, List.append_nil]
  have yl := (tyL hL).1
  refine w_253 ⟨nl, nl, ?_⟩
  rw [Int.toNat_natCast, h.fx (c := 52) (by decide) (by decide), h.fx (c := 49) (by decide) (by decide), e52, e49]
  refine he P Y [] ex L J ρ v nlo n1 X0 d _ hF h hL hr hn1 nf tf hK (by rw [hX]; exact hT) hd (hq.toE (fun x ρ1 J1 v1 er hk h1 => ?_))
  obtain ⟨⟨p1, p2, p3⟩, -⟩ := h1.pop1
  obtain ⟨cu1, cu2, cu3⟩ := h1.cur
  obtain ⟨d', rfl⟩ : ∃ d', d = d' + 1 := ⟨d - 1, by omega⟩
  have p3 : rrw J1 n x (tyE u n G L e) (v1 66 (tmps P).length) (v1 67 (tmps P).length) (v1 68 (tmps P).length) := p3
  have nd : 0 ≤ (((tmps P).length : Nat) : Int) ∧ (((tmps P).length : Nat) : Int) < 1500 := ⟨by omega, by omega⟩
  have ni : 0 ≤ ((30 * P.length + Y.length : Nat) : Int) ∧ ((30 * P.length + Y.length : Nat) : Int) < 360 := ⟨by omega, by omega⟩
  have nf' : 0 ≤ (P.length : Int) ∧ (P.length : Int) < 12 := ⟨by omega, by omega⟩
  have e56' : v1 56 lo = ((Y.length : Nat) : Int) := by rw [h1.fx (by decide) (by decide), e56, yl]
  refine ⟨fun c => absurd c (by decide), fun _ => ⟨fun c => absurd c (by decide), fun _ => ⟨nl, fun _ => ⟨nl, ?_⟩, fun c => absurd rfl c⟩⟩⟩
  rw [h1.fx (c := 52) (by decide) (by decide), e52, e56', cu2, wNat (k := P.length) (a := ((P.length + 1 : Nat) : Int) - 1) (by omega) (by omega), wNat (k := 30 * P.length) (a := 30 * (P.length : Int)) (by omega) (by omega), wNat (k := 30 * P.length + Y.length) (a := ((30 * P.length : Nat) : Int) + ((Y.length : Nat) : Int)) (by omega) (by omega), Int.toNat_natCast]
  refine istx_rr h1 hL hG _ e (Nat.lt_succ_self _) we nlo n1 X0 hr hn1 nf ?_
  rw [cu2, wNat (k := P.length) (a := ((P.length + 1 : Nat) : Int) - 1) (by omega) (by omega), Int.toNat_natCast, cu1.1, wm1 (by omega)]
  refine ⟨ni, p3.ty01, nf', nf', w_253_133 ⟨fun _ => w_253_143 ?_, fun c => absurd rfl c⟩⟩
  rw [up_ne (show (38 : Nat) ≠ 72 by decide), up_ne (show (38 : Nat) ≠ 80 by decide), p1, wtp (A := (tmps P).length + 1) (B := (tmps P).length) (j := 1) (by omega) (by omega) (by omega), Int.toNat_natCast, Int.toNat_natCast, up_ne (show (66 : Nat) ≠ 72 by decide), up_ne (show (66 : Nat) ≠ 80 by decide), up_ne (show (67 : Nat) ≠ 72 by decide), up_ne (show (67 : Nat) ≠ 80 by decide), up_ne (show (68 : Nat) ≠ 72 by decide), up_ne (show (68 : Nat) ≠ 80 by decide)]
  refine ⟨nd, ni, nd, ni, nd, ni, w_253_194 ⟨fun c => absurd c (by decide), fun _ => ⟨fun c => absurd c (by decide), fun _ => ⟨Or.inr rfl, ?_⟩⟩⟩⟩
  rw [up_ne (show (38 : Nat) ≠ 71 by decide), up_ne (show (38 : Nat) ≠ 70 by decide), up_ne (show (38 : Nat) ≠ 69 by decide), up_ne (show (38 : Nat) ≠ 72 by decide), up_ne (show (38 : Nat) ≠ 80 by decide), p1, wtp (A := (tmps P).length + 1) (B := (tmps P).length) (j := 1) (by omega) (by omega) (by omega)]
  generalize hw : up (up (up (up (up (up v1 80 (30 * P.length + Y.length) (tyE u n G L e)) 72 P.length ((Y.length + 1 : Nat) : Int)) 69 (30 * P.length + Y.length) (v1 66 (tmps P).length)) 70 (30 * P.length + Y.length) (v1 67 (tmps P).length)) 71 (30 * P.length + Y.length) (v1 68 (tmps P).length)) 38 52 (((tmps P).length : Nat) : Int) = w
  have cw : ∀ c k, ¬ (c = 38 ∧ k = 52) → ¬ (c = 80 ∧ k = 30 * P.length + Y.length) → ¬ (c = 72 ∧ k = P.length) → ¬ ((69 ≤ c ∧ c ≤ 71) ∧ k = 30 * P.length + Y.length) → w c k = v1 c k := by
    intro c k q1 q2 q3 q4
    rw [← hw, up_o (by omega), up_o (by omega), up_o (by omega), up_o (by omega), up_o (by omega), up_o (by omega)]
  have hk : ∀ Y' ex' J' v', (flat (P ++ [(Y, ex, [])])).set ((flat P).length + L.length) x = flat (P ++ [(Y', ex', [])]) → Y'.map (fun x => x.2) = (L ++ [(nm, tyE u n G L e)]).map (fun x => x.2) → Y'.length + ex' = sl → RX v0 n z dp 0 J' (P ++ [(Y', ex', [])]) (wH ρ1 (gc ((flat (P ++ [(Y, ex, [])])).set ((flat P).length + L.length) x) z0 (rH ρ1))) v' → Q 1 v' := hk
  rw [← yl, flat_let (ty := tyE u n G L e) (by omega)] at hk
  refine hk (Y ++ [(x, tyE u n G L e)]) (ex - 1) J1 w rfl (by rw [List.map_append, List.map_append, hL]; rfl) (by rw [List.length_append]; show Y.length + 1 + (ex - 1) = sl; omega) ?_
  refine h1.nfr ?_ (fun k hk => cw 38 k (by omega) (by omega) (by omega) (by omega)) (fun c c1 c2 c3 => funext fun k => cw c k (by omega) (by omega) (by omega) (by omega)) (fun c k hc hk => cw c k (by omega) (by omega) (by omega) (by omega)) (fun f hf => cw 72 f (by omega) (by omega) (by omega) (by omega)) ⟨?_, ?_, fun k hk => ?_⟩ (fun p hp => ?_)
  · rw [← hw]; exact up_k
  · rw [← hw, up_ne (by decide), up_ne (by decide), up_ne (by decide), up_ne (by decide), up_k, List.length_append]; rfl
  · rw [List.length_append]; show Y.length + 1 ≤ 30; omega
  · rw [List.length_append] at hk
    have hk : k < Y.length + 1 := hk
    by_cases c : k = Y.length
    · subst c
      have e0 := gdA (l := Y) (m := [(x, tyE u n G L e)]) (k := 0) (d := ((-1, 0, 0), 0))
      rw [Nat.add_zero] at e0
      rw [e0]
      have w80 : w 80 (30 * P.length + Y.length) = tyE u n G L e := by rw [← hw, up_ne (by decide), up_ne (by decide), up_ne (by decide), up_ne (by decide), up_ne (by decide), up_k]
      have w69 : w 69 (30 * P.length + Y.length) = v1 66 (tmps P).length := by rw [← hw, up_ne (by decide), up_ne (by decide), up_ne (by decide), up_k]
      have w70 : w 70 (30 * P.length + Y.length) = v1 67 (tmps P).length := by rw [← hw, up_ne (by decide), up_ne (by decide), up_k]
      have w71 : w 71 (30 * P.length + Y.length) = v1 68 (tmps P).length := by rw [← hw, up_ne (by decide), up_k]
      rw [w69, w70, w71, w80]
      exact ⟨p3, rfl⟩
    · rw [gd_app1 (by omega), cw 69 _ (by omega) (by omega) (by omega) (by omega), cw 70 _ (by omega) (by omega) (by omega) (by omega), cw 71 _ (by omega) (by omega) (by omega) (by omega), cw 80 _ (by omega) (by omega) (by omega) (by omega)]
      exact cu1.2.2 k (by omega)
  · rw [rws_app, cnt_app] at hp
    rw [flat_1, cnt_app, cnt_app, cnt_app]
    omega
theorem gs_give {t : Int} {v0 : Mem} {u : Nat → Int} {n z dp : Nat} {G : Fn} {tx : Nat → Int} {cl : XC} {F D sl j : Nat} {rt : Int} {e : Jvm.Term} {P : List Fr} {Y : List TyR} {ex lo nlo n1 d : Nat} {L : Sc} {J : Jb} {ρ : Rho} {v : Mem} {X0 : Int} {Q : Int → Mem → Prop} (he : HRe t v0 u n z dp G tx cl F D e) (hF : P.length = F) (h : RX v0 n z dp 0 J (P ++ [(Y, ex, [])]) ρ v) (hL : Y.map (fun x => x.2) = L.map (fun x => x.2)) (hsl : Y.length + ex = sl) (hj : j < L.length) (hty : (L.getD j (0, 0)).2 = tyE u n G L e) (hlo : lo < 300) (e49 : v0 49 lo = 2) (e56 : v0 56 lo = (j : Nat)) (e52 : v0 52 lo = X0) (hr : RN2 v0 u n G L e nlo n1 X0) (hn1 : n1 ≤ 3300) (nf : nfE u n G L e = []) (tf : tfE u n G L [] e = []) (hK : rK ρ + sgn e ≤ 40 * rN ρ) (hT : (tmps P).length + tdE 0 e ≤ 80 * (F + 1)) (hd : D + 2 * hgt e ≤ d) (hq : KRk v0 n z dp P sl L rt Q (bES (evE u n G tx z cl (flat P).length L e (flat (P ++ [(Y, ex, [])])) ρ) (fun q ρ1 => okW ((flat (P ++ [(Y, ex, [])])).set ((flat P).length + j) (g2 q 0)) ρ1))) (hd1 : 1 ≤ d) : RR t (d + 1) 253 [(2, 38), (0, (lo : Int))] v Q := by
  have nl : 0 ≤ (lo : Int) ∧ (lo : Int) < 300 := ⟨by omega, by omega⟩
  have hX : tmps (P ++ [(Y, ex, [])]) = tmps P := by rw [tmps_1, List.append_nil]
  obtain ⟨yl, yt⟩ := tyL hL
  refine w_253 ⟨nl, nl, ?_⟩
  rw [Int.toNat_natCast, h.fx (c := 52) (by decide) (by decide), h.fx (c := 49) (by decide) (by decide), e52, e49]
  refine he P Y [] ex L J ρ v nlo n1 X0 d _ hF h hL hr hn1 nf tf hK (by rw [hX]; exact hT) hd (hq.toE (fun x ρ1 J1 v1 er hk h1 => ?_))
  obtain ⟨⟨p1, p2, p3⟩, -⟩ := h1.pop1
  obtain ⟨cu1, cu2, cu3⟩ := h1.cur
  have l30 := cu1.2.1
  obtain ⟨d', rfl⟩ : ∃ d', d = d' + 1 := ⟨d - 1, by omega⟩
  have p3 : rrw J1 n x (tyE u n G L e) (v1 66 (tmps P).length) (v1 67 (tmps P).length) (v1 68 (tmps P).length) := p3
  have nd : 0 ≤ (((tmps P).length : Nat) : Int) ∧ (((tmps P).length : Nat) : Int) < 1500 := ⟨by omega, by omega⟩
  have ni : 0 ≤ ((30 * P.length + j : Nat) : Int) ∧ ((30 * P.length + j : Nat) : Int) < 360 := ⟨by omega, by omega⟩
  have e56' : v1 56 lo = ((j : Nat) : Int) := by rw [h1.fx (by decide) (by decide), e56]
  refine ⟨fun c => absurd c (by decide), fun _ => ⟨fun c => absurd c (by decide), fun _ => ⟨nl, fun c => absurd c (by decide), fun _ => ?_⟩⟩⟩
  rw [e56', cu2, wNat (k := P.length) (a := ((P.length + 1 : Nat) : Int) - 1) (by omega) (by omega), wNat (k := 30 * P.length) (a := 30 * (P.length : Int)) (by omega) (by omega), wNat (k := 30 * P.length + j) (a := ((30 * P.length : Nat) : Int) + (j : Int)) (by omega) (by omega)]
  refine w_253_133 ⟨fun c => absurd c (by decide), fun _ => ⟨fun _ => w_253_143 ?_, fun c => absurd rfl c⟩⟩
  rw [p1, wtp (A := (tmps P).length + 1) (B := (tmps P).length) (j := 1) (by omega) (by omega) (by omega), Int.toNat_natCast, Int.toNat_natCast]
  refine ⟨nd, ni, nd, ni, nd, ni, w_253_194 ⟨fun c => absurd c (by decide), fun _ => ⟨fun c => absurd c (by decide), fun _ => ⟨Or.inr rfl, ?_⟩⟩⟩⟩
  rw [up_ne (show (38 : Nat) ≠ 71 by decide), up_ne (show (38 : Nat) ≠ 70 by decide), up_ne (show (38 : Nat) ≠ 69 by decide), p1, wtp (A := (tmps P).length + 1) (B := (tmps P).length) (j := 1) (by omega) (by omega) (by omega)]
  generalize hw : up (up (up (up v1 69 (30 * P.length + j) (v1 66 (tmps P).length)) 70 (30 * P.length + j) (v1 67 (tmps P).length)) 71 (30 * P.length + j) (v1 68 (tmps P).length)) 38 52 (((tmps P).length : Nat) : Int) = w
  have cw : ∀ c k, ¬ (c = 38 ∧ k = 52) → ¬ ((69 ≤ c ∧ c ≤ 71) ∧ k = 30 * P.length + j) → w c k = v1 c k := by
    intro c k q1 q4
    rw [← hw, up_o (by omega), up_o (by omega), up_o (by omega), up_o (by omega)]
  have hk : ∀ Y' ex' J' v', (flat (P ++ [(Y, ex, [])])).set ((flat P).length + j) x = flat (P ++ [(Y', ex', [])]) → Y'.map (fun x => x.2) = L.map (fun x => x.2) → Y'.length + ex' = sl → RX v0 n z dp 0 J' (P ++ [(Y', ex', [])]) (wH ρ1 (gc ((flat (P ++ [(Y, ex, [])])).set ((flat P).length + j) x) z0 (rH ρ1))) v' → Q 1 v' := hk
  rw [flat_giv (ty := tyE u n G L e) (by omega)] at hk
  refine hk (Y.set j (x, tyE u n G L e)) ex J1 w rfl ?_ (by rw [List.length_set]; exact hsl) ?_
  · rw [List.map_set, ← hL]
    have e0 : (x, tyE u n G L e).2 = (Y.map (fun x => x.2)).getD j 0 := by
      show tyE u n G L e = _
      rw [← hty, ← yt j hj]
      exact (getD_mp (f := fun x : TyR => x.2) (d := ((-1, 0, 0), 0)) (e := 0) Y j (by omega)).symm
    rw [e0, set_same]
  refine h1.nfr ?_ (fun k hk => cw 38 k (by omega) (by omega)) (fun c c1 c2 c3 => funext fun k => cw c k (by omega) (by omega)) (fun c k hc hk => cw c k (by omega) (by omega)) (fun f hf => cw 72 f (by omega) (by omega)) ⟨?_, ?_, fun k hk => ?_⟩ (fun p hp => ?_)
  · rw [← hw]; exact up_k
  · rw [cw 72 _ (by omega) (by omega), List.length_set]; exact cu1.1
  · rw [List.length_set]; exact l30
  · rw [List.length_set] at hk
    rw [getD_setT j k (by omega), cw 80 _ (by omega) (by omega)]
    by_cases c : k = j
    · rw [if_pos c]
      subst c
      have w69 : w 69 (30 * P.length + k) = v1 66 (tmps P).length := by rw [← hw, up_ne (by decide), up_ne (by decide), up_ne (by decide), up_k]
      have w70 : w 70 (30 * P.length + k) = v1 67 (tmps P).length := by rw [← hw, up_ne (by decide), up_ne (by decide), up_k]
      have w71 : w 71 (30 * P.length + k) = v1 68 (tmps P).length := by rw [← hw, up_ne (by decide), up_k]
      rw [w69, w70, w71]
      refine ⟨p3, ?_⟩
      rw [(cu1.2.2 k (by omega)).2, yt k hj, hty]
    · rw [if_neg c, cw 69 _ (by omega) (by omega), cw 70 _ (by omega) (by omega), cw 71 _ (by omega) (by omega)]
      exact cu1.2.2 k (by omega)
  · obtain ⟨y, hy, ey⟩ := mem_rws hp
    rw [flat_1, cnt_app, cnt_app, cnt_app]
    rcases List.mem_or_eq_of_mem_set hy with q | q
    · have := cnt_in (rws Y) (List.mem_map.mpr ⟨y, q, rfl⟩) ey
      omega
    · rw [q] at ey
      have := cnt_in (p := p) (rws [(x, tyE u n G L e)]) (List.mem_map.mpr ⟨(x, tyE u n G L e), List.mem_singleton.mpr rfl, rfl⟩) ey
      omega
