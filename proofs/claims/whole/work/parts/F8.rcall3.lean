/-! THE REFERENCE CALLS AS cal SAYS. -/
theorem ent_rr {t : Int} {v0 : Mem} {u : Nat → Int} {n z dp : Nat} {tx : Nat → Int} {l : List FnT} {cl : XC} {ci D : Nat} {FS FS' : List Fr} {T : List TyR} {J : Jb} {ρ : Rho} {v : Mem} {d : Nat} {Q : Int → Mem → Prop} (hn : n ≤ 3000) (htx : ∀ a, a < n → v0 40 a = tx a ∧ -128 ≤ tx a ∧ tx a < 128) (hR : RLD v0 u n l) (hf : fsok u n l) (hty : ∀ q ∈ l, tyF q) (hnf : nfG u n (l.map (fnOf u n)) 0 l = []) (htf : tfG u n (l.map (fnOf u n)) l = []) (hcl : ∀ ci S ρ, rN ρ ≤ 20000 → okE 1 0 ρ (cl ci S ρ)) (hE : ∀ e, wfE (kd u n) false e → HRe t v0 u n z dp (l.map (fnOf u n)) tx cl FS.length D e) (hD : 8 ≤ D) (hci : ci < l.length) (cv : ∀ ρ v, RX v0 n z dp 0 J FS' ρ v → RZ v0 n z dp J FS T ρ v) (hT : T.map (fun x => x.2) = (l.getD ci dfF).2.1.map (fun p => p.2)) (h : RX v0 n z dp 0 J FS' ρ v) (hK : rK ρ ≤ 40 * rN ρ) (hS : (tmps FS).length ≤ 80 * FS.length) (hFl : FS.length < dp) (hd : D + 119 ≤ d)
    (hq : KZ v0 n z dp FS (l.getD ci dfF).2.2.1 Q (if rN ρ = 20000 then .error (4, ρ) else fnE (flat FS) (evK u n (l.map (fnOf u n)) tx z cl (flat FS).length (scP u n (l.getD ci dfF).2.1) (l.getD ci dfF).2.2.2 ((flat FS ++ rws T) ++ zr (slF u n (l.map (fnOf u n)) (l.getD ci dfF) - (l.getD ci dfF).2.1.length)) (wN ρ (rN ρ + 1))))) : RR t d 251 [(2, 38), (0, (ci : Int)), (0, (T.length : Int))] v Q := by
  obtain ⟨d', rfl⟩ : ∃ d', d = d' + 2 := ⟨d - 2, by omega⟩
  have hq0 := getD_mem (d := dfF) l ci hci
  have hl20 : l.length ≤ 20 := hR.2.2.1
  obtain ⟨st', nd', r1, r2, r3⟩ := hR.1
  obtain ⟨s, s1, m, m1, g1, g2, g3⟩ := (RPr2_g l _ _ _ _ _ _ r1).2 ci hci
  rw [Nat.zero_add] at g1
  obtain ⟨-, -, f43, f44, fps, fs2⟩ := g1
  generalize hqq : l.getD ci dfF = q at *
  obtain ⟨wf, bd⟩ := hf q hq0
  obtain ⟨ty1, ty2⟩ := hty q hq0
  have sb := slF_b (G := l.map (fnOf u n)) wf
  have hTl : T.length = q.2.1.length := by
    have := congrArg List.length hT
    rwa [List.length_map, List.length_map] at this
  have h6 : T.length ≤ 6 := by have := wf.2.1; omega
  have hz := cv ρ v h
  obtain ⟨⟨n57, n58, n1, n2⟩, -⟩ := hz.2.2.2.2.1
  have hF12 : FS.length < 12 := by omega
  refine w_251 ⟨fun c => ?_, fun _ => step_rr h (fun c20 v' gg => ⟨fun _ => ⟨Or.inl rfl, ?_⟩, fun c => absurd rfl c⟩) (fun c20 v1 h1 => ⟨fun c => absurd c (by decide), fun _ => ?_⟩)⟩
  · rw [n57, n58] at c
    exact absurd c (by omega)
  · rw [if_pos c20] at hq
    exact hq v' gg
  rw [if_neg c20] at hq
  have z1 := cv _ v1 h1
  have e52 : v1 38 52 = (((tmps FS).length + T.length : Nat) : Int) := by
    have := z1.2.2.1.1
    rwa [List.length_append] at this
  have l15 : (tmps FS).length + T.length ≤ 1500 := by
    have := z1.2.2.1.2.1
    rwa [List.length_append] at this
  have e57 : v1 38 57 = ((FS.length : Nat) : Int) := z1.2.2.2.2.1.1.1
  rw [e57, wNat (k := 30 * FS.length) (a := 30 * ((FS.length : Nat) : Int)) (by omega) (by omega)]
  refine par_lp (N := (tmps FS).length) (by omega) hF12 h6 l15 e52 (fun w hw => ?_) T.length 0 v1 (by omega) ⟨fun _ _ _ _ _ => rfl, fun c k hk => Or.inl rfl, fun j hj => absurd hj (Nat.not_lt_zero _)⟩
  have w38 : w 38 = v1 38 := hw.1 38 (by decide) (by decide) (by decide) (by decide)
  have w45 : w 45 ci = v0 45 ci := by rw [hw.1 45 (by decide) (by decide) (by decide) (by decide), z1.2.2.2.2.2.2.1 45 (by omega) (by decide)]
  refine w_251_37 ⟨fun c => absurd c (by omega), fun _ => ?_⟩
  rw [w38, e57, e52, wNat (k := (tmps FS).length) (a := (((tmps FS).length + T.length : Nat) : Int) - (T.length : Int)) (by omega) (by omega), wNat (k := FS.length + 1) (a := ((FS.length : Nat) : Int) + 1) (by omega) (by omega), Int.toNat_natCast, Int.toNat_natCast, w45]
  refine ⟨⟨by omega, by omega⟩, Or.inl rfl, ⟨by omega, by omega⟩, ?_⟩
  have hx := z1.enter (ex := slF u n (l.map (fnOf u n)) q - q.2.1.length) hFl rfl hw h6 (fun k hk => by
    have hk' : k < q.2.1.length := by omega
    have e1 := getD_mp (f := fun x : TyR => x.2) (d := ((-1, 0, 0), 0)) (e := 0) T k hk
    have e2 := getD_mp (f := fun x : Nat × Int => x.2) (d := (0, 0)) (e := 0) q.2.1 k hk'
    rw [hT] at e1
    have e3 := RPs_g q.2.1 0 fps k hk'
    rw [Nat.zero_add] at e3
    have e4 : (T.getD k ((-1, 0, 0), 0)).2 = (q.2.1.getD k (0, 0)).2 := e1.symm.trans e2
    rw [e4]
    exact ⟨e3, ty1 _ (getD_mem (d := (0, 0)) q.2.1 k hk')⟩)
  have hb := (HRl_all (t := t) (v0 := v0) (z := z) (dp := dp) (F := FS.length) (D := D) (sl := slF u n (l.map (fnOf u n)) q) (rt := q.2.2.1) hn htx (FTy_of hR hty) (P6_of hf) hcl hE hD sb.2 _ q.2.2.2 (Nat.lt_succ_self _) wf.2.2.2.1 8 (scP u n q.2.1) q.2.1.length s s1 m m1 (v0 45 ci) wf.2.2.2.2.1 bd (nfG_at l 0 hnf q hq0) (tfG_at l htf q hq0) (by unfold scP; rw [List.length_map]; omega) (Nat.le_refl _) fs2 (by omega) (by omega)).go
  refine hb FS T _ J _ _ (d' + 1) _ rfl hS hx ?_ (by omega) (by show rK ρ ≤ 40 * (rN ρ + 1); omega) (by omega) ?_
  · rw [hT]
    unfold scP
    rw [List.map_map]
    rfl
  · have hfl : flat (FS ++ [(T, slF u n (l.map (fnOf u n)) q - q.2.1.length, [])]) = (flat FS ++ rws T) ++ zr (slF u n (l.map (fnOf u n)) q - q.2.1.length) := by
      rw [flat_1]
      show flat FS ++ (rws T ++ (zr _ ++ [])) = _
      rw [List.append_nil, List.append_assoc]
    rw [hfl]
    exact kz_body hq (by omega) ty2 hF12
/-- THE REFERENCE CALLS AS cal SAYS -/
theorem HCr_all {t : Int} {v0 : Mem} {u : Nat → Int} {b0 : Nat → Int} {n z dp : Nat} {tx : Nat → Int} {l : List FnT} (hn : n ≤ 3000) (hu : u = uB b0 n) (htx : ∀ a, a < n → v0 40 a = tx a ∧ -128 ≤ tx a ∧ tx a < 128) (hR : RLD v0 u n l) (hf : fsok u n l) (hty : ∀ q ∈ l, tyF q) (hnf : nfG u n (l.map (fnOf u n)) 0 l = []) (htf : tfG u n (l.map (fnOf u n)) l = []) : ∀ (k F : Nat), F + 1 + k = dp → HCr t v0 n z dp (l.map (fnOf u n)) (cal u n (l.map (fnOf u n)) tx z l k) F (8 + 121 * k) := by
  intro k
  induction k with
  | zero =>
    intro F hk P Y X T ex J ρ v d Q x hF hx hT h hK hS hd hq
    obtain ⟨d', rfl⟩ : ∃ d', d = d' + 1 := ⟨d - 1, by omega⟩
    obtain ⟨⟨n57, n58, n1, n2⟩, -⟩ := h.2.2.2.2.1
    refine w_251 ⟨fun _ => w_231 ⟨Or.inl rfl, Or.inl rfl, hq _ h.err⟩, fun c => absurd ?_ c⟩
    rw [n57, n58, List.length_append]
    show ((P.length + 1 : Nat) : Int) = _
    rw [hF, hk]
  | succ k ih =>
    intro F hk P Y X T ex J ρ v d Q x hF hx hT h hK hS hd hq
    obtain ⟨ci, e1, e2, e3⟩ := fno_at hx
    rw [List.length_map] at e2
    have hTy : fnT (l.map (fnOf u n)) x = (l.getD ci dfF).2.2.1 := by
      unfold fnT
      rw [e1, if_neg (by omega), Int.toNat_natCast, getD_mp (d := dfF) l ci e2]
      rfl
    have hT2 : T.map (fun x => x.2) = (l.getD ci dfF).2.1.map (fun p => p.2) := by
      rw [hT, e3, getD_mp (d := dfF) l ci e2]
      rfl
    have hTl : T.length = (l.getD ci dfF).2.1.length := by
      have := congrArg List.length hT2
      rwa [List.length_map, List.length_map] at this
    have hll : (flat (P ++ [(Y, ex, X)]) ++ rws T).length = (flat (P ++ [(Y, ex, X)])).length + T.length := by rw [List.length_append, rws_len]
    have lP : (P ++ [(Y, ex, X)]).length = F + 1 := by rw [List.length_append, hF]; rfl
    have hcl : ∀ ci S ρ, rN ρ ≤ 20000 → okE 1 0 ρ (cal u n (l.map (fnOf u n)) tx z l k ci S ρ) := fun ci S ρ h => cal_ok hf k ci S ρ h
    have hS' : (tmps (P ++ [(Y, ex, X)])).length ≤ 80 * (P ++ [(Y, ex, X)]).length := by
      rw [tmps_T, List.length_append] at hS
      rw [lP]
      omega
    have hE : ∀ e, wfE (kd u n) false e → HRe t v0 u n z dp (l.map (fnOf u n)) tx (cal u n (l.map (fnOf u n)) tx z l k) (P ++ [(Y, ex, X)]).length (8 + 121 * k + 2) e := fun e he => by
      rw [lP]
      exact HRe_all hn hu htx (FTy_of hR hty) (P6_of hf) hcl (ih (F + 1) (by omega)) (by omega) _ e (Nat.lt_succ_self _) he
    have hq := hq.kz
    rw [e1, hTy, cal_succ, Int.toNat_natCast, flat_T, ← hTl, hll, Nat.add_sub_cancel, List.take_left, hTl] at hq
    rw [e1]
    exact ent_rr (FS := P ++ [(Y, ex, X)]) (D := 8 + 121 * k + 2) hn htx hR hf hty hnf htf hcl hE (by omega) e2 (fun ρ v g => g.toZ) hT2 h hK hS' (by rw [lP]; omega) (by omega) hq
