/-! The reference works an E out: signs between two, brackets, calls. -/
theorem lvl2 {K : Int} (hK : lvl K = 2) : K = 189 ∨ K = 161 ∨ K = 60 ∨ K = 188 := by
  unfold lvl at hK
  by_cases c1 : K = 20
  · rw [if_pos c1] at hK; omega
  rw [if_neg c1] at hK
  by_cases c2 : K = 10
  · rw [if_pos c2] at hK; omega
  rw [if_neg c2] at hK
  by_cases c3 : K = 189 ∨ K = 161 ∨ K = 60 ∨ K = 188
  · exact c3
  rw [if_neg c3] at hK
  split at hK
  · omega
  · split at hK <;> omega
theorem opc_rk {K : Int} (h5 : lvl K < 5) (h1 : ¬ lvl K ≤ 1) : (lvl K = 2 ∧ 9 ≤ opc K ∧ opc K ≤ 12) ∨ (K = 38 ∧ opc K = 15) ∨ (¬ lvl K = 2 ∧ ¬ K = 38 ∧ (opc K = 13 ∨ opc K = 14 ∨ opc K = 16 ∨ opc K = 17 ∨ opc K = 18)) := by
  by_cases c2 : lvl K = 2
  · refine Or.inl ⟨c2, ?_⟩
    rcases lvl2 c2 with c | c | c | c <;> (subst c; exact ⟨by decide, by decide⟩)
  · by_cases c38 : K = 38
    · subst c38; exact Or.inr (Or.inl ⟨rfl, by decide⟩)
    · refine Or.inr (Or.inr ⟨c2, c38, ?_⟩)
      rcases lvl_op h5 h1 c2 c38 with c | c | c | c | c <;> (subst c; decide)
theorem he_op {t : Int} {v0 : Mem} {u : Nat → Int} {n z dp : Nat} {G : Fn} {tx : Nat → Int} {cl : XC} {F D i : Nat} {l r : Jvm.Term} (hn : n ≤ 3000) (htx : ∀ a, a < n → v0 40 a = tx a ∧ -128 ≤ tx a ∧ tx a < 128) (hG : FTy v0 G) (hcl : ∀ ci S ρ, rN ρ ≤ 20000 → okE 1 0 ρ (cl ci S ρ)) (hD : 8 ≤ D) (h5 : lvl (kd u n i) < 5) (h1l : ¬ lvl (kd u n i) ≤ 1) (hl : HRe t v0 u n z dp G tx cl F D l) (hr : HRe t v0 u n z dp G tx cl F D r) (wl : wfE (kd u n) false l) (wr : wfE (kd u n) false r) : HRe t v0 u n z dp G tx cl F D (.add (.arg i) (.sub l r)) := by
  intro P Y X ex L J ρ v lo hi' x d Q hF h hL hr2 h33 hnf htf hK hT hd hq
  have hd : D + 2 * (max (hgt l) (hgt r) + 1) ≤ d := hd
  obtain ⟨d', rfl⟩ : ∃ d', d = d' + 1 := ⟨d - 1, by omega⟩
  obtain ⟨k, y, zz, m, rfl, k1, k2, k3, k4, k5, k6, k7, k8, k9, k10, k11, k12⟩ := hr2
  have hK : rK ρ + (sgn l + sgn r + 1) ≤ 40 * rN ρ := hK
  have hT : (tmps (P ++ [(Y, ex, X)])).length + max (tdE 0 l) (1 + tdE 0 r) ≤ 80 * (F + 1) := hT
  have hnf : nfE u n G L l ++ nfE u n G L r = [] := hnf
  obtain ⟨n1, n2⟩ := List.append_eq_nil_iff.mp hnf
  have e57 : v 57 k = opc (kd u n i) := by rw [h.fx (by decide) (by decide)]; exact k6
  have e58 : v 58 k = y := by rw [h.fx (by decide) (by decide)]; exact k7
  have hq : KRe v0 n z dp P Y ex X (if kd u n i = 38 then 1 else 0) Q (if lvl (kd u n i) ≤ 1 then _ else bE (evE u n G tx z cl (flat P).length L l (flat (P ++ [(Y, ex, X)])) ρ) (fun q ρ1 => bE (evE u n G tx z cl (flat P).length L r (flat (P ++ [(Y, ex, X)]) ++ q) ρ1) (fun q2 ρ2 => opE tx z (kd u n i) (tyE u n G L l) (flat (P ++ [(Y, ex, X)])) (g2 q 0) (g2 q2 0) ρ2))) := hq
  rw [if_neg h1l] at hq
  have htf : (if lvl (kd u n i) = 2 then tfE u n G L [] l ++ (tfE u n G L [] r ++ wt (tyE u n G L l) (tyE u n G L r) (fstT u n r)) else tfE u n G L [] l ++ (wt (if kd u n i = 38 then 1 else 0) (tyE u n G L l) (fstT u n l) ++ (tfE u n G L [] r ++ wt (if kd u n i = 38 then 1 else 0) (tyE u n G L r) (fstT u n r)))) = [] := htf
  obtain ⟨t1, t3, tt⟩ : tfE u n G L [] l = [] ∧ tfE u n G L [] r = [] ∧ ((lvl (kd u n i) = 2 ∧ tyE u n G L l = tyE u n G L r) ∨ (¬ lvl (kd u n i) = 2 ∧ (if kd u n i = 38 then 1 else 0) = tyE u n G L l ∧ (if kd u n i = 38 then 1 else 0) = tyE u n G L r)) := by
    by_cases c2 : lvl (kd u n i) = 2
    · rw [if_pos c2] at htf
      obtain ⟨t1, t23⟩ := List.append_eq_nil_iff.mp htf
      obtain ⟨t2, t3⟩ := List.append_eq_nil_iff.mp t23
      exact ⟨t1, t2, Or.inl ⟨c2, wt_nil t3⟩⟩
    · rw [if_neg c2] at htf
      obtain ⟨t1, t234⟩ := List.append_eq_nil_iff.mp htf
      obtain ⟨t2, t34⟩ := List.append_eq_nil_iff.mp t234
      obtain ⟨t3, t4⟩ := List.append_eq_nil_iff.mp t34
      exact ⟨t1, t3, Or.inr ⟨c2, wt_nil t2, wt_nil t4⟩⟩
  have or := opc_rk h5 h1l
  refine ev_two (by omega) e57 (by omega) ?_
  rw [e58]
  refine he_two (s := 1) hcl hl hr wl wr hF h hL k9 (by omega) k8 k11 (by omega) n1 n2 t1 t3 (by omega) (by omega) (by omega) (by omega) (by omega) hq (fun a b ρ2 J2 v2 hk h2 hK2 => ?_)
  have hk : KRe v0 n z dp P Y ex X (if kd u n i = 38 then 1 else 0) Q (opE tx z (kd u n i) (tyE u n G L l) (flat (P ++ [(Y, ex, X)])) a b ρ2) := hk
  unfold opE at hk
  have hN2 := h2.nle
  rcases or with ⟨c2, o1, o2⟩ | ⟨c38, o1⟩ | ⟨c2, c38, o1⟩
  · rw [if_pos c2] at hk
    rw [if_neg (fun q => by rw [q] at c2; exact absurd c2 (by decide))] at hk
    rcases tt with ⟨-, te⟩ | ⟨c, -⟩
    · rw [← te] at h2
      have e58' : v2 58 k = y := by rw [h2.fx (by decide) (by decide)]; exact k7
      refine ev_num (by omega) (RR.deep (d := 0 + 3) (nm_cmp h2 htx hn (by omega) c2 (fun Q' hQ' => ?_) hk.b01) (by omega))
      rw [e58']
      exact istx_rr h2 hL hG _ l (Nat.lt_succ_self _) wl lo m y k9 (by omega) n1 hQ'
    · exact absurd c2 c
  · rw [if_neg (show ¬ lvl (kd u n i) = 2 by rw [c38]; decide), if_pos c38, if_pos c38] at hk
    rcases tt with ⟨c, -⟩ | ⟨-, te1, te2⟩
    · rw [c38] at c; exact absurd c (by decide)
    · rw [if_pos c38] at te1 te2
      rw [← te1, ← te2] at h2
      rw [o1]
      exact ev_txt (by decide) (by decide) (RR.deep (d := 0 + 3) (tx_join h2 htx hn (by omega) hk.b01) (by omega))
  · rw [if_neg c2, if_neg c38, if_neg c38] at hk
    rcases tt with ⟨c, -⟩ | ⟨-, te1, te2⟩
    · exact absurd c c2
    · rw [if_neg c38] at te1 te2
      rw [← te1, ← te2] at h2
      exact ev_num (by omega) (RR.deep (d := 0 + 2) (nm_ar (lvl_op h5 h1l c2 c38) h2 hk.b01) (by omega))
theorem he_div {t : Int} {v0 : Mem} {u : Nat → Int} {n z dp : Nat} {G : Fn} {tx : Nat → Int} {cl : XC} {F D : Nat} {l r : Jvm.Term} (hn : n ≤ 3000) (htx : ∀ a, a < n → v0 40 a = tx a ∧ -128 ≤ tx a ∧ tx a < 128) (hcl : ∀ ci S ρ, rN ρ ≤ 20000 → okE 1 0 ρ (cl ci S ρ)) (hD : 8 ≤ D) (hl : HRe t v0 u n z dp G tx cl F D l) (hr : HRe t v0 u n z dp G tx cl F D r) (wl : wfE (kd u n) false l) (wr : wfE (kd u n) false r) : HRe t v0 u n z dp G tx cl F D (.div l r) := by
  intro P Y X ex L J ρ v lo hi' x d Q hF h hL hr2 h33 hnf htf hK hT hd hq
  have hd : D + 2 * (max (hgt l) (hgt r) + 1) ≤ d := hd
  obtain ⟨d', rfl⟩ : ∃ d', d = d' + 1 := ⟨d - 1, by omega⟩
  obtain ⟨k, y, zz, m, rfl, k1, k2, k3, k4, k5, k6, k7, k8, k9, k10, k11, k12⟩ := hr2
  have hK : rK ρ + (sgn l + sgn r + 1) ≤ 40 * rN ρ := hK
  have hT : (tmps (P ++ [(Y, ex, X)])).length + max (tdE 0 l) (1 + tdE 0 r) ≤ 80 * (F + 1) := hT
  have hnf : nfE u n G L l ++ nfE u n G L r = [] := hnf
  obtain ⟨n1, n2⟩ := List.append_eq_nil_iff.mp hnf
  have e57 : v 57 k = 19 := by rw [h.fx (by decide) (by decide)]; exact k6
  have e58 : v 58 k = y := by rw [h.fx (by decide) (by decide)]; exact k7
  have hq : KRe v0 n z dp P Y ex X 0 Q (bE (evE u n G tx z cl (flat P).length L l (flat (P ++ [(Y, ex, X)])) ρ) (fun q ρ1 => bE (evE u n G tx z cl (flat P).length L r (flat (P ++ [(Y, ex, X)]) ++ q) ρ1) (fun q2 ρ2 => rtE (flat (P ++ [(Y, ex, X)])) (-1, byA (bt tx (rB ρ2)) (g2 q 0) (g2 q2 0).2.1, 0) ρ2))) := hq
  have htf : tfE u n G L [] l ++ (wt 1 (tyE u n G L l) (fstT u n l) ++ (tfE u n G L [] r ++ wt 0 (tyE u n G L r) (fstT u n r))) = [] := htf
  obtain ⟨t1, t234⟩ := List.append_eq_nil_iff.mp htf
  obtain ⟨t2, t34⟩ := List.append_eq_nil_iff.mp t234
  obtain ⟨t3, t4⟩ := List.append_eq_nil_iff.mp t34
  refine ev_two (by omega) e57 (by omega) ?_
  rw [e58]
  refine he_two (s := 1) hcl hl hr wl wr hF h hL k9 (by omega) k8 k11 (by omega) n1 n2 t1 t3 (by omega) (by omega) (by omega) (by omega) (by omega) hq (fun a b ρ2 J2 v2 hk h2 hK2 => ?_)
  have hk : KRe v0 n z dp P Y ex X 0 Q (rtE (flat (P ++ [(Y, ex, X)])) (-1, byA (bt tx (rB ρ2)) a b.2.1, 0) ρ2) := hk
  rw [← wt_nil t2, ← wt_nil t4] at h2
  exact ev_txt (by decide) (by decide) (RR.deep (d := 0 + 2) (tx_at h2 htx hn hk.b01) (by omega))
theorem he_find {t : Int} {v0 : Mem} {u : Nat → Int} {n z dp : Nat} {G : Fn} {tx : Nat → Int} {cl : XC} {F D i : Nat} {l r : Jvm.Term} (hn : n ≤ 3000) (htx : ∀ a, a < n → v0 40 a = tx a ∧ -128 ≤ tx a ∧ tx a < 128) (hcl : ∀ ci S ρ, rN ρ ≤ 20000 → okE 1 0 ρ (cl ci S ρ)) (hD : 8 ≤ D) (hl : HRe t v0 u n z dp G tx cl F D l) (hr : HRe t v0 u n z dp G tx cl F D r) (wl : wfE (kd u n) false l) (wr : wfE (kd u n) false r) : HRe t v0 u n z dp G tx cl F D (.op2 .ior (.arg i) (.sub l r)) := by
  intro P Y X ex L J ρ v lo hi' x d Q hF h hL hr2 h33 hnf htf hK hT hd hq
  have hd : D + 2 * (max (hgt l) (hgt r) + 1) ≤ d := hd
  obtain ⟨d', rfl⟩ : ∃ d', d = d' + 1 := ⟨d - 1, by omega⟩
  obtain ⟨k, y, zz, m, rfl, k1, k2, k3, k4, k5, k6, k7, k8, k9, k10, k11, k12⟩ := hr2
  have hK : rK ρ + (sgn l + sgn r + 1) ≤ 40 * rN ρ := hK
  have hT : (tmps (P ++ [(Y, ex, X)])).length + max (tdE 0 l) (1 + tdE 0 r) ≤ 80 * (F + 1) := hT
  have hnf : nfE u n G L l ++ nfE u n G L r = [] := hnf
  obtain ⟨n1, n2⟩ := List.append_eq_nil_iff.mp hnf
  have e57 : v 57 k = 22 := by rw [h.fx (by decide) (by decide)]; exact k6
  have e58 : v 58 k = y := by rw [h.fx (by decide) (by decide)]; exact k7
  have hq : KRe v0 n z dp P Y ex X 0 Q (bE (evE u n G tx z cl (flat P).length L (.sub l r) (flat (P ++ [(Y, ex, X)])) ρ) (fun q ρ1 => fdE tx (flat (P ++ [(Y, ex, X)])) (g2 q 0) (g2 q 1) ρ1)) := hq
  rw [bE_pair] at hq
  have htf : tfE u n G L [] l ++ (wt 1 (tyE u n G L l) (fstT u n l) ++ (tfE u n G L [] r ++ wt 1 (tyE u n G L r) (fstT u n r))) = [] := htf
  obtain ⟨t1, t234⟩ := List.append_eq_nil_iff.mp htf
  obtain ⟨t2, t34⟩ := List.append_eq_nil_iff.mp t234
  obtain ⟨t3, t4⟩ := List.append_eq_nil_iff.mp t34
  refine ev_two (by omega) e57 (by omega) ?_
  rw [e58]
  refine he_two (s := 1) hcl hl hr wl wr hF h hL k9 (by omega) k8 k11 (by omega) n1 n2 t1 t3 (by omega) (by omega) (by omega) (by omega) (by omega) hq (fun a b ρ2 J2 v2 hk h2 hK2 => ?_)
  have hk : KRe v0 n z dp P Y ex X 0 Q (fdE tx (flat (P ++ [(Y, ex, X)])) a b ρ2) := hk
  rw [← wt_nil t2, ← wt_nil t4] at h2
  exact ev_txt (by decide) (by decide) (RR.deep (d := 0 + 3) (tx_find h2 htx hn hk.b01) (by omega))
theorem he_one {t : Int} {v0 : Mem} {u : Nat → Int} {n z dp : Nat} {G : Fn} {tx : Nat → Int} {cl : XC} {F D i : Nat} {e : Jvm.Term} (hn : n ≤ 3000) (hcl : ∀ ci S ρ, rN ρ ≤ 20000 → okE 1 0 ρ (cl ci S ρ)) (hD : 8 ≤ D) (he : HRe t v0 u n z dp G tx cl F D e) (we : wfE (kd u n) false e) : HRe t v0 u n z dp G tx cl F D (.op2 .iand (.arg i) e) := by
  intro P Y X ex L J ρ v lo hi' x d Q hF h hL hr h33 hnf htf hK hT hd hq
  have hd : D + 2 * (hgt e + 1) ≤ d := hd
  obtain ⟨d', rfl⟩ : ∃ d', d = d' + 1 := ⟨d - 1, by omega⟩
  obtain ⟨k, y, rfl, k1, k2, k3, k4, k5, k6, k7⟩ := hr
  have hK : rK ρ + (sgn e + 1) ≤ 40 * rN ρ := hK
  have htf : tfE u n G L [] e ++ wt (if kd u n i = 18 then 1 else 0) (tyE u n G L e) (fstT u n e) = [] := htf
  obtain ⟨t1, t2⟩ := List.append_eq_nil_iff.mp htf
  have ty := wt_nil t2
  have hq : KRe v0 n z dp P Y ex X (if kd u n i = 18 then 0 else 1) Q (bE (evE u n G tx z cl (flat P).length L e (flat (P ++ [(Y, ex, X)])) ρ) (fun q ρ1 => oneE z (kd u n i) (flat (P ++ [(Y, ex, X)])) (g2 q 0) ρ1)) := hq
  have e57 : v 57 k = one1 (kd u n i) := by rw [h.fx (by decide) (by decide)]; exact k4
  have o1 : one1 (kd u n i) = 21 ∨ one1 (kd u n i) = 23 ∨ one1 (kd u n i) = 24 := by
    unfold one1
    split
    · omega
    · split <;> omega
  refine ev_one (by omega) e57 (by omega) ?_
  have e58 : v 58 k = y := by rw [h.fx (by decide) (by decide)]; exact k5
  rw [e58]
  refine he P Y X ex L J ρ v lo k y d' _ hF h hL k6 (by omega) hnf t1 (by omega) hT (by omega) (hq.bnd (fun a ρ1 J1 v1 er hk h1 => ?_))
  have ok := (evE_ok (tx := tx) (z := z) (B := (flat P).length) (L := L) (G := G) hcl _ e (Nat.lt_succ_self _)).1 we (flat (P ++ [(Y, ex, X)])) ρ h.nle
  rw [er] at ok
  have q1 : rN ρ ≤ rN ρ1 := ok.2.1
  have q2 : rK ρ1 + 40 * rN ρ ≤ rK ρ + 40 * rN ρ1 + sgn e := ok.2.2.2
  have hN1 := h1.nle
  have hk : KRe v0 n z dp P Y ex X (if kd u n i = 18 then 0 else 1) Q (oneE z (kd u n i) (flat (P ++ [(Y, ex, X)])) a ρ1) := hk
  unfold oneE at hk
  unfold one1
  by_cases c : kd u n i = 18
  · rw [if_pos c] at hk ty ⊢
    rw [if_pos c] at hk
    rw [← ty] at h1
    exact ev_txt (by decide) (by decide) (RR.deep (d := 0 + 2) (tx_len h1 hn hk.b01) (by omega))
  · rw [if_neg c] at hk ty ⊢
    rw [if_neg c] at hk
    rw [← ty] at h1
    by_cases c1 : kd u n i = 11
    · rw [if_pos c1] at hk ⊢
      exact ev_txt (by decide) (by decide) (RR.deep (d := 0 + 3) (tx_digits h1 (by omega) hk.b01) (by omega))
    · rw [if_neg c1] at hk ⊢
      exact ev_txt (by decide) (by decide) (RR.deep (d := 0 + 3) (tx_sign h1 (by omega) hk.b01) (by omega))
theorem he_rem {t : Int} {v0 : Mem} {u : Nat → Int} {n z dp : Nat} {G : Fn} {tx : Nat → Int} {cl : XC} {F D : Nat} {l r s : Jvm.Term} (hn : n ≤ 3000) (hcl : ∀ ci S ρ, rN ρ ≤ 20000 → okE 1 0 ρ (cl ci S ρ)) (hD : 8 ≤ D) (hl : HRe t v0 u n z dp G tx cl F D l) (hr : HRe t v0 u n z dp G tx cl F D r) (hs : HRe t v0 u n z dp G tx cl F D s) (wl : wfE (kd u n) false l) (wr : wfE (kd u n) false r) (ws : wfE (kd u n) false s) : HRe t v0 u n z dp G tx cl F D (.rem l (.sub r s)) := by
  intro P Y X ex L J ρ v lo hi' x d Q hF h hL hr2 h33 hnf htf hK hT hd hq
  have hd : D + 2 * (max (hgt l) (max (hgt r) (hgt s)) + 1) ≤ d := hd
  obtain ⟨d', rfl⟩ : ∃ d', d = d' + 1 := ⟨d - 1, by omega⟩
  obtain ⟨k, y, zz, ww, m, m', rfl, k1, k2, k3, k4, k5, k6, k7, k8, k9, k10, k11, k12, k13, k14, k15, k16, k17⟩ := hr2
  have hK : rK ρ + (sgn l + (sgn r + sgn s) + 1) ≤ 40 * rN ρ := hK
  have hT : (tmps (P ++ [(Y, ex, X)])).length + max (tdE 0 l) (max (1 + tdE 0 r) (2 + tdE 0 s)) ≤ 80 * (F + 1) := hT
  have hnf : nfE u n G L l ++ (nfE u n G L r ++ nfE u n G L s) = [] := hnf
  obtain ⟨n1, n23⟩ := List.append_eq_nil_iff.mp hnf
  obtain ⟨n2, n3⟩ := List.append_eq_nil_iff.mp n23
  have e57 : v 57 k = 20 := by rw [h.fx (by decide) (by decide)]; exact k8
  have e58 : v 58 k = y := by rw [h.fx (by decide) (by decide)]; exact k9
  have hq : KRe v0 n z dp P Y ex X 1 Q (bE (evE u n G tx z cl (flat P).length L l (flat (P ++ [(Y, ex, X)])) ρ) (fun q ρ1 => bE (evE u n G tx z cl (flat P).length L (.sub r s) (flat (P ++ [(Y, ex, X)]) ++ q) ρ1) (fun q2 ρ2 => rtE (flat (P ++ [(Y, ex, X)])) (ptR (g2 q 0) (g2 q2 0).2.1 (g2 q2 1).2.1) ρ2))) := hq
  have hq : KRe v0 n z dp P Y ex X 1 Q (bE (evE u n G tx z cl (flat P).length L l (flat (P ++ [(Y, ex, X)])) ρ) (fun q ρ1 => bE (evE u n G tx z cl (flat P).length L r (flat (P ++ [(Y, ex, X)]) ++ q) ρ1) (fun q2 ρ2 => bE (evE u n G tx z cl (flat P).length L s (flat (P ++ [(Y, ex, X)]) ++ q ++ q2) ρ2) (fun q3 ρ3 => rtE (flat (P ++ [(Y, ex, X)])) (ptR (g2 q 0) (g2 (q2 ++ q3) 0).2.1 (g2 (q2 ++ q3) 1).2.1) ρ3)))) := by
    have e0 : (fun q ρ1 => bE (evE u n G tx z cl (flat P).length L (.sub r s) (flat (P ++ [(Y, ex, X)]) ++ q) ρ1) (fun q2 ρ2 => rtE (flat (P ++ [(Y, ex, X)])) (ptR (g2 q 0) (g2 q2 0).2.1 (g2 q2 1).2.1) ρ2)) = (fun q ρ1 => bE (evE u n G tx z cl (flat P).length L r (flat (P ++ [(Y, ex, X)]) ++ q) ρ1) (fun q2 ρ2 => bE (evE u n G tx z cl (flat P).length L s (flat (P ++ [(Y, ex, X)]) ++ q ++ q2) ρ2) (fun q3 ρ3 => rtE (flat (P ++ [(Y, ex, X)])) (ptR (g2 q 0) (g2 (q2 ++ q3) 0).2.1 (g2 (q2 ++ q3) 1).2.1) ρ3))) := by
      funext q ρ1
      rw [bE_pair]
    rw [e0] at hq
    exact hq
  have htf : tfE u n G L [] l ++ (wt 1 (tyE u n G L l) (fstT u n l) ++ (tfE u n G L [] r ++ (wt 0 (tyE u n G L r) (fstT u n r) ++ (tfE u n G L [] s ++ wt 0 (tyE u n G L s) (fstT u n s))))) = [] := htf
  obtain ⟨t1, tA⟩ := List.append_eq_nil_iff.mp htf
  obtain ⟨t2, tB⟩ := List.append_eq_nil_iff.mp tA
  obtain ⟨t3, tC⟩ := List.append_eq_nil_iff.mp tB
  obtain ⟨t4, tD⟩ := List.append_eq_nil_iff.mp tC
  obtain ⟨t5, t6⟩ := List.append_eq_nil_iff.mp tD
  refine ev_two (by omega) e57 (by omega) ?_
  rw [e58]
  refine he_two (s := sgn s + 1) hcl hl hr wl wr hF h hL k12 (by omega) k10 k14 (by omega) n1 n2 t1 t3 (by omega) (by omega) (by omega) (by omega) (by omega) hq (fun a b ρ2 J2 v2 hk h2 hK2 => ?_)
  have e60 : v2 60 k = ww := by rw [h2.fx (by decide) (by decide)]; exact k11
  refine ev_prt (by omega) ?_
  rw [e60]
  refine hs P Y (X ++ [(a, tyE u n G L l), (b, tyE u n G L r)]) ex L J2 ρ2 v2 m' k ww d' _ hF h2 hL k16 (by omega) n3 t5 (by omega) (by rw [tmps_T, List.length_append]; show _ + 2 + _ ≤ _; omega) (by omega) ?_
  rw [flat_T]
  have hk : KRe v0 n z dp P Y ex X 1 Q (bE (evE u n G tx z cl (flat P).length L s (flat (P ++ [(Y, ex, X)]) ++ [a] ++ [b]) ρ2) (fun q3 ρ3 => rtE (flat (P ++ [(Y, ex, X)])) (ptR a (g2 ([b] ++ q3) 0).2.1 (g2 ([b] ++ q3) 1).2.1) ρ3)) := hk
  rw [List.append_assoc] at hk
  refine hk.bnd (fun c ρ3 J3 v3 er3 hk3 h3 => ?_)
  have hk3 : KRe v0 n z dp P Y ex X 1 Q (rtE (flat (P ++ [(Y, ex, X)])) (ptR a b.2.1 c.2.1) ρ3) := hk3
  rw [List.append_assoc, ← wt_nil t2, ← wt_nil t4, ← wt_nil t6] at h3
  exact RR.deep (d := 0 + 2) (tx_part h3 hn hk3.b01) (by omega)
/-- what is to follow behind what is handed over -/
def KRa (t : Int) (d : Nat) (v0 : Mem) (n z dp : Nat) (P : List Fr) (Y : List TyR) (e : Nat) (X : List TyR) (ds : List Int) (Q : Int → Mem → Prop) (k l2 : Nat) (r : XE) : Prop := match r with
  | .error er => ∀ v', RE v0 n z dp er v' → Q 0 v'
  | .ok q => ∀ T J' v', rws T = q.1 → T.map (fun x => x.2) = ds → RX v0 n z dp 0 J' (P ++ [(Y, e, X ++ T)]) q.2 v' → LL t (d + 1) 250 9 [(2, 38), (0, (k : Int)), (0, ((l2 + T.length : Nat) : Int)), (0, -1)] [] v' Q
theorem KRa.bnd {t : Int} {d : Nat} {v0 : Mem} {n z dp : Nat} {P : List Fr} {Y X X' : List TyR} {e k l2 : Nat} {ds : List Int} {ty1 : Int} {Q : Int → Mem → Prop} {C : Mem → Prop} {r : XE} {kk : List Rw → Rho → XE} (h : KRa t d v0 n z dp P Y e X ds Q k l2 (bE r kk)) (hk : ∀ r1 ρ1 J' v', r = .ok ([r1], ρ1) → KRa t d v0 n z dp P Y e X ds Q k l2 (kk [r1] ρ1) → RX v0 n z dp 0 J' (P ++ [(Y, e, X' ++ [(r1, ty1)])]) ρ1 v' → C v') : KRe v0 n z dp P Y e X' ty1 (fun x v' => (x = 0 → ((0 : Int) = 0 ∨ (0 : Int) = 1) ∧ Q 0 v') ∧ (¬ x = 0 → C v')) r := by
  match r, h with
  | .error er, h => exact fun v' g => ⟨fun _ => ⟨Or.inl rfl, h v' g⟩, fun c => absurd rfl c⟩
  | .ok (q, ρ1), h =>
    intro r1 J' v' e1 g
    have e1 : q = [r1] := e1
    subst e1
    exact ⟨fun c => absurd c (by decide), fun _ => hk r1 ρ1 J' v' rfl h g⟩
theorem KRa.shift {t : Int} {d : Nat} {v0 : Mem} {n z dp : Nat} {P : List Fr} {Y X : List TyR} {e k l2 : Nat} {dd : Int} {ds : List Int} {Q : Int → Mem → Prop} {r1 : Rw} {r : XE} (h : KRa t d v0 n z dp P Y e X (dd :: ds) Q k l2 (bE r (fun q2 ρ2 => .ok ([r1] ++ q2, ρ2)))) : KRa t d v0 n z dp P Y e (X ++ [(r1, dd)]) ds Q k (l2 + 1) r := by
  match r, h with
  | .error er, h => exact h
  | .ok (q2, ρ2), h =>
    intro T J' v' e1 e2 g
    have e1 : rws T = q2 := e1
    have q := h ((r1, dd) :: T) J' v' (by show r1 :: rws T = [r1] ++ q2; rw [e1]; rfl) (by show dd :: T.map (fun x => x.2) = dd :: ds; rw [e2]) (by rw [List.append_assoc] at g; exact g)
    rw [List.length_cons] at q
    rw [show l2 + 1 + T.length = l2 + (T.length + 1) from by omega]
    exact q
theorem ha_all {t : Int} {v0 : Mem} {u : Nat → Int} {n z dp : Nat} {G : Fn} {tx : Nat → Int} {cl : XC} {F D : Nat} (hcl : ∀ ci S ρ, rN ρ ≤ 20000 → okE 1 0 ρ (cl ci S ρ)) {P : List Fr} {Y : List TyR} {ex k d : Nat} {L : Sc} {Q : Int → Mem → Prop} (hF : P.length = F) (hL : Y.map (fun x => x.2) = L.map (fun x => x.2)) : ∀ (N : Nat) (as : Jvm.Term), SizeOf.sizeOf as < N → wfE (kd u n) true as → (∀ e, SizeOf.sizeOf e < SizeOf.sizeOf as → wfE (kd u n) false e → HRe t v0 u n z dp G tx cl F D e) → ∀ (X : List TyR) (J : Jb) (ρ : Rho) (v : Mem) (lo hi l2 : Nat) (x : Int) (ds : List Int), RX v0 n z dp 0 J (P ++ [(Y, ex, X)]) ρ v → RN2 v0 u n G L as lo hi x → hi ≤ 3300 → nfE u n G L as = [] → tfE u n G L ds as = [] → argc as = ds.length → l2 + argc as ≤ 6 → rK ρ + (sgn as + 1) ≤ 40 * rN ρ → (tmps (P ++ [(Y, ex, X)])).length + tdE l2 as ≤ 80 * (F + 1) + l2 → D + 2 * hgt as ≤ d → KRa t d v0 n z dp P Y ex X ds Q k l2 (evE u n G tx z cl (flat P).length L as (flat (P ++ [(Y, ex, X)])) ρ) → LL t (d + 1) 250 9 [(2, 38), (0, (k : Int)), (0, (l2 : Int)), (0, x)] [] v Q := by
  intro N
  induction N with
  | zero => intro e he; exact absurd he (Nat.not_lt_zero _)
  | succ N ih =>
    intro as hsz hw hE X J ρ v lo hi l2 x ds h hr h33 hnf htf ha h6 hK hT hd hq
    unfold wfE at hw
    split at hw
    · have hr : lo ≤ hi ∧ x = -1 := hr
      obtain ⟨-, rfl⟩ := hr
      have hds : ds = [] := List.eq_nil_of_length_eq_zero (by rw [← ha]; rfl)
      subst hds
      exact hq [] J v rfl rfl (by rw [List.append_nil]; exact h)
    · rename_i e r _
      obtain ⟨k0, m, rfl, k1, k2, k3, k4, k5, k6⟩ := hr
      have ha : argc r + 1 = ds.length := ha
      have h6 : l2 + (argc r + 1) ≤ 6 := h6
      match ds, ha, htf, hq with
      | dd :: ds, ha, htf, hq =>
        have htf : tfE u n G L [] e ++ (wt dd (tyE u n G L e) (fstT u n e) ++ tfE u n G L ds r) = [] := htf
        obtain ⟨t1, t23⟩ := List.append_eq_nil_iff.mp htf
        obtain ⟨t2, t3⟩ := List.append_eq_nil_iff.mp t23
        have hnf : nfE u n G L e ++ nfE u n G L r = [] := hnf
        obtain ⟨n1, n2⟩ := List.append_eq_nil_iff.mp hnf
        have hK : rK ρ + (sgn e + sgn r + 1) ≤ 40 * rN ρ := hK
        have hT : (tmps (P ++ [(Y, ex, X)])).length + max (l2 + tdE 0 e) (tdE (l2 + 1) r) ≤ 80 * (F + 1) + l2 := hT
        have hd : D + 2 * max (hgt e) (hgt r) ≤ d := hd
        have hq : KRa t d v0 n z dp P Y ex X (dd :: ds) Q k l2 (bE (evE u n G tx z cl (flat P).length L e (flat (P ++ [(Y, ex, X)])) ρ) (fun q ρ1 => bE (evE u n G tx z cl (flat P).length L r (flat (P ++ [(Y, ex, X)]) ++ q) ρ1) (fun q2 ρ2 => .ok (q ++ q2, ρ2)))) := hq
        refine w_250_9 ⟨fun c => absurd c (by omega), fun _ => ?_⟩
        refine hE e (by simp; omega) hw.1 P Y X ex L J ρ v lo m (k0 : Int) d _ hF h hL k4 (by omega) n1 t1 (by omega) (by omega) (by omega) (hq.bnd (fun a ρ1 J1 v1 er hk h1 => ?_))
        have ok := (evE_ok (tx := tx) (z := z) (B := (flat P).length) (L := L) (G := G) hcl _ e (Nat.lt_succ_self _)).1 hw.1 (flat (P ++ [(Y, ex, X)])) ρ h.nle
        rw [er] at ok
        have o1 : rN ρ ≤ rN ρ1 := ok.2.1
        have o2 : rK ρ1 + 40 * rN ρ ≤ rK ρ + 40 * rN ρ1 + sgn e := ok.2.2.2
        have e62 : v1 62 k0 = v0 62 k0 := by rw [h1.fx (by decide) (by decide)]
        rw [Int.toNat_natCast, e62, wm1 (by omega)]
        rw [← wt_nil t2] at h1
        refine ⟨⟨by omega, by omega⟩, ih r (by simp at hsz; omega) hw.2 (fun e' he' => hE e' (by simp; omega)) (X ++ [(a, dd)]) J1 ρ1 v1 m hi (l2 + 1) _ ds h1 k6 h33 n2 t3 (by simp at ha; omega) (by omega) (by omega) (by rw [tmps_T, List.length_append]; show _ + 1 + _ ≤ _; omega) (by omega) ?_⟩
        rw [flat_T]
        exact hk.shift
    · exact hw.elim
    all_goals first | exact hw.elim | (rename_i h; cases h)
/-- the reference calls as cl says -/
def HCr (t : Int) (v0 : Mem) (n z dp : Nat) (G : Fn) (cl : XC) (F D : Nat) : Prop := ∀ (P : List Fr) (Y X T : List TyR) (ex : Nat) (J : Jb) (ρ : Rho) (v : Mem) (d : Nat) (Q : Int → Mem → Prop) (x : Int), P.length = F → ¬ fno G x = -1 → T.map (fun x => x.2) = fnP G x → RX v0 n z dp 0 J (P ++ [(Y, ex, X ++ T)]) ρ v → rK ρ ≤ 40 * rN ρ → (tmps (P ++ [(Y, ex, X ++ T)])).length ≤ 80 * (F + 1) → D ≤ d → KRe v0 n z dp P Y ex X (fnT G x) Q (cl (fno G x) (flat (P ++ [(Y, ex, X ++ T)])) ρ) → RR t d 251 [(2, 38), (0, fno G x), (0, (T.length : Int))] v Q
theorem he_call {t : Int} {v0 : Mem} {u : Nat → Int} {n z dp : Nat} {G : Fn} {tx : Nat → Int} {cl : XC} {F D i : Nat} {as : Jvm.Term} (h6 : P6 G) (hcl : ∀ ci S ρ, rN ρ ≤ 20000 → okE 1 0 ρ (cl ci S ρ)) (hc : HCr t v0 n z dp G cl F D) (hw : wfE (kd u n) true as) (hE : ∀ e, SizeOf.sizeOf e < SizeOf.sizeOf as → wfE (kd u n) false e → HRe t v0 u n z dp G tx cl F (D + 2) e) : HRe t v0 u n z dp G tx cl F (D + 2) (.op2 .ixor (.arg i) as) := by
  intro P Y X ex L J ρ v lo hi' x d Q hF h hL hr h33 hnf htf hK hT hd hq
  have hd : D + 2 + 2 * (hgt as + 1) ≤ d := hd
  obtain ⟨d', rfl⟩ : ∃ d', d = d' + 2 := ⟨d - 2, by omega⟩
  obtain ⟨k, rfl, k1, k2, k3, k4, k5⟩ := hr
  have hK : rK ρ + (sgn as + 1) ≤ 40 * rN ρ := hK
  have hT : (tmps (P ++ [(Y, ex, X)])).length + max 1 (tdE 0 as) ≤ 80 * (F + 1) := hT
  obtain ⟨n1, n2, n3⟩ := nf_call hnf
  have htf : tfE u n G L (fnP G (vl u n i)) as = [] := htf
  have p6 := h6 (vl u n i)
  have nk : 0 ≤ (k : Int) ∧ (k : Int) < 3300 := ⟨by omega, by omega⟩
  have hq : KRe v0 n z dp P Y ex X (fnT G (vl u n i)) Q (bE (evE u n G tx z cl (flat P).length L as (flat (P ++ [(Y, ex, X)])) ρ) (fun q ρ1 => cl (fno G (vl u n i)) (flat (P ++ [(Y, ex, X)]) ++ q) ρ1)) := hq
  have e57 : v 57 k = 4 := by rw [h.fx (by decide) (by decide)]; exact k3
  have e60 : v 60 k = v0 60 k := by rw [h.fx (by decide) (by decide)]
  refine w_238 ⟨nk, ?_⟩
  rw [Int.toNat_natCast, e57]
  refine ⟨fun c => absurd c (by decide), fun _ => ⟨fun c => absurd c (by decide), fun _ => ⟨fun c => absurd c (by decide), fun _ => ⟨fun _ => w_250 ⟨nk, ?_⟩, fun c => absurd rfl c⟩⟩⟩⟩
  rw [Int.toNat_natCast, e60]
  refine ha_all (D := D + 2) (k := k) hcl hF hL _ as (Nat.lt_succ_self _) hw hE X J ρ v (k + 1) hi' 0 _ (fnP G (vl u n i)) h k5 h33 n3 htf n2.symm (by omega) hK (by omega) (by omega) ?_
  have ok := (evE_ok (tx := tx) (z := z) (B := (flat P).length) (L := L) (G := G) hcl _ as (Nat.lt_succ_self _)).2 hw (flat (P ++ [(Y, ex, X)])) ρ h.nle
  generalize hev : evE u n G tx z cl (flat P).length L as (flat (P ++ [(Y, ex, X)])) ρ = r at hq ok
  match r, hq, ok with
  | .error er, hq, ok => exact fun v' g => ⟨Or.inl rfl, hq v' g⟩
  | .ok (q, ρ1), hq, ok =>
    intro T J' v' e1 e2 g
    have e1 : rws T = q := e1
    have hq : KRe v0 n z dp P Y ex X (fnT G (vl u n i)) Q (cl (fno G (vl u n i)) (flat (P ++ [(Y, ex, X)]) ++ q) ρ1) := hq
    have o0 : q.length = argc as := ok.1
    have o1 : rN ρ ≤ rN ρ1 := ok.2.1
    have o2 : rK ρ1 + 40 * rN ρ ≤ rK ρ + 40 * rN ρ1 + sgn as := ok.2.2.2
    have e58 : v' 58 k = fno G (vl u n i) := by rw [g.fx (by decide) (by decide)]; exact k4
    have td := td_argc _ as (Nat.lt_succ_self _) hw 0
    have tl : T.length = argc as := by rw [← o0, ← e1, rws_len]
    rw [Nat.zero_add]
    refine w_250_9 ⟨fun _ => ⟨nk, ?_⟩, fun c => absurd (by decide) c⟩
    rw [Int.toNat_natCast, e58]
    refine hc P Y X T ex J' ρ1 v' d' _ (vl u n i) hF n1 e2 g (by omega) (by rw [tmps_T, List.length_append]; omega) (by omega) ?_
    rw [flat_T, e1]
    exact hq.b01.b01
/-- THE REFERENCE WORKS AN E OUT AS evE SAYS -/
theorem HRe_all {t : Int} {v0 : Mem} {u : Nat → Int} {b0 : Nat → Int} {n z dp : Nat} {G : Fn} {tx : Nat → Int} {cl : XC} {F D : Nat} (hn : n ≤ 3000) (hu : u = uB b0 n) (htx : ∀ a, a < n → v0 40 a = tx a ∧ -128 ≤ tx a ∧ tx a < 128) (hG : FTy v0 G) (h6 : P6 G) (hcl : ∀ ci S ρ, rN ρ ≤ 20000 → okE 1 0 ρ (cl ci S ρ)) (hc : HCr t v0 n z dp G cl F D) (hD : 8 ≤ D) : ∀ (N : Nat) (e : Jvm.Term), SizeOf.sizeOf e < N → wfE (kd u n) false e → HRe t v0 u n z dp G tx cl F (D + 2) e := by
  intro N
  induction N with
  | zero => intro e he; exact absurd he (Nat.not_lt_zero _)
  | succ N ih =>
    intro e he hw
    unfold wfE at hw
    split at hw
    · rename_i q; cases q
    · rename_i q; cases q
    · exact hw.elim
    · exact he_arg hn hu (by omega)
    · rename_i i e1 _
      exact ih e1 (by simp at he; omega) hw
    · rename_i i e1 _
      exact he_mul (by omega) hw.1 (ih e1 (by simp at he; omega) hw.2)
    · rename_i i l r _
      have a1 := ih l (by simp at he; omega) hw.2.1
      have a2 := ih r (by simp at he; omega) hw.2.2
      by_cases c : lvl (kd u n i) ≤ 1
      · refine he_settle hcl (by omega) ?_ a1 a2 hw.2.1
        rcases Nat.lt_or_ge (lvl (kd u n i)) 1 with q | q
        · exact Or.inl (lvl_0.mp (by omega))
        · exact Or.inr (lvl_1.mp (by omega))
      · exact he_op hn htx hG hcl (by omega) hw.1 c a1 a2 hw.2.1 hw.2.2
    · rename_i s e1 _
      exact he_div hn htx hcl (by omega) (ih s (by simp at he; omega) hw.1) (ih e1 (by simp at he; omega) hw.2) hw.1 hw.2
    · rename_i s a b _
      exact he_rem hn hcl (by omega) (ih s (by simp at he; omega) hw.1) (ih a (by simp at he; omega) hw.2.1) (ih b (by simp at he; omega) hw.2.2) hw.1 hw.2.1 hw.2.2
    · rename_i i e1 _
      exact he_one hn hcl (by omega) (ih e1 (by simp at he; omega) hw.2) hw.2
    · rename_i i a b _
      exact he_find hn htx hcl (by omega) (ih a (by simp at he; omega) hw.1) (ih b (by simp at he; omega) hw.2) hw.1 hw.2
    · rename_i i as _
      exact he_call h6 hcl hc hw.2 (fun e' h' w' => ih e' (by simp at he; omega) w')
    · exact hw.elim
