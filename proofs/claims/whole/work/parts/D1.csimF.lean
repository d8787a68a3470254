/-! The class calls FUNCTIONS, and runs a PROGRAM. -/
theorem getD_mp {α β : Type} {f : α → β} {d : α} {e : β} : ∀ (l : List α) (k : Nat), k < l.length → (l.map f).getD k e = f (l.getD k d) := by
  intro l
  induction l with
  | nil => intro k h; exact absurd h (Nat.not_lt_zero _)
  | cons x l ih =>
    intro k h
    match k, h with
    | 0, _ => rfl
    | k + 1, h => exact ih k (by simp at h; omega)
theorem ENT_at {v : Mem} {u : Nat → Int} {n : Nat} {G : Fn} : ∀ (l : List FnT) (fi pc : Nat), ENT v u n G fi pc l → AtC v pc (coG u n G l pc) → ∀ k, k < l.length → ∃ en : Nat, v 6 (fi + k) = (en : Int) ∧ v 7 (fi + k) = ((slF u n G (l.getD k dfF) : Nat) : Int) ∧ AtC v en (coF u n G (l.getD k dfF) en) ∧ en + (coF u n G (l.getD k dfF) en).length ≤ pc + (coG u n G l pc).length := by
  intro l
  induction l with
  | nil => intro fi pc _ _ k h; exact absurd h (Nat.not_lt_zero _)
  | cons q l ih =>
    intro fi pc hE hA k hk
    have hA : AtC v pc (coF u n G q pc ++ coG u n G l (pc + (coF u n G q pc).length)) := hA
    obtain ⟨a1, a2⟩ := (AtC_app _ _ _).mp hA
    have hlen : (coG u n G (q :: l) pc).length = (coF u n G q pc).length + (coG u n G l (pc + (coF u n G q pc).length)).length := by
      show (coF u n G q pc ++ coG u n G l (pc + (coF u n G q pc).length)).length = _
      rw [List.length_append]
    match k, hk with
    | 0, _ => exact ⟨pc, hE.1.1, hE.1.2, a1, by rw [hlen]; show pc + (coF u n G q pc).length ≤ _; omega⟩
    | k + 1, hk =>
      obtain ⟨en, e1, e2, e3, e4⟩ := ih (fi + 1) _ hE.2 a2 k (by simp at hk; omega)
      rw [show fi + 1 + k = fi + (k + 1) from by omega] at e1 e2
      exact ⟨en, e1, e2, e3, by rw [hlen]; show en + (coF u n G (l.getD k dfF) en).length ≤ _; omega⟩
/-- FUNCTION ci of the PROGRAM as the class holds it -/
theorem fn_at {v0 : Mem} {u : Nat → Int} {n : Nat} {l : List FnT} (hC : CLD v0 u n l) (hf : fsok u n l) {ci : Nat} (h : ci < l.length) : ∃ en, fnAt v0 ci (l.getD ci dfF).2.1.length (slF u n (l.map (fnOf u n)) (l.getD ci dfF)) en ∧ AtK v0 en (coF u n (l.map (fnOf u n)) (l.getD ci dfF) en) := by
  obtain ⟨⟨f1, f2, f3⟩, c1, c2, c3, c4, -⟩ := hC
  rw [List.length_map] at f1 f2 f3
  obtain ⟨en, e1, e2, e3, e4⟩ := ENT_at l 0 0 c4 c3 ci h
  rw [Nat.zero_add] at e1 e2
  have g := f3 ci h
  rw [getD_mp (d := dfF) l ci h] at g
  have hlp : (fnOf u n (l.getD ci dfF)).2.1.length = (l.getD ci dfF).2.1.length := List.length_map ..
  have sb := slF_b (G := l.map (fnOf u n)) (hf _ (getD_mem (d := dfF) l ci h)).1
  refine ⟨en, ⟨⟨l.length, f1, h, f2⟩, ?_, e2, e1, sb.1, sb.2⟩, e3, _, c1, c2, by omega⟩
  rw [g.2.1, hlp]
theorem fno_at {G : Fn} {x : Int} (h : ¬ fno G x = -1) : ∃ ci : Nat, fno G x = (ci : Int) ∧ ci < G.length ∧ fnP G x = (G.getD ci (0, [], 0)).2.1 := by
  rcases fndA_r (fun k => (G.getD k (0, [], 0)).1) x G.length 0 with g | ⟨j, g1, g3, g4, -⟩
  · exact absurd g h
  · have g1 : fno G x = (j : Int) := g1
    refine ⟨j, g1, by omega, ?_⟩
    unfold fnP
    rw [g1, if_neg (by omega), Int.toNat_natCast]
/-- what a FUNCTION's BLOCK comes to, as what a call comes to -/
def fnE (S0 : List Rw) (r : XS) : XE := match r with
  | .error e => .error e
  | .ok (true, q, ρ') => .ok (q, ρ')
  | .ok (false, _, ρ') => rtE S0 (-1, 0, 0) ρ'
theorem cal_succ {u : Nat → Int} {n : Nat} {G : Fn} {tx : Nat → Int} {z : Nat} {l : List FnT} {k : Nat} {ci : Int} {S : List Rw} {ρ : Rho} : cal u n G tx z l (k + 1) ci S ρ = if rN ρ = 20000 then .error (4, ρ) else fnE (S.take (S.length - (l.getD ci.toNat dfF).2.1.length)) (evK u n G tx z (cal u n G tx z l k) (S.length - (l.getD ci.toNat dfF).2.1.length) (scP u n (l.getD ci.toNat dfF).2.1) (l.getD ci.toNat dfF).2.2.2 (S ++ zr (slF u n G (l.getD ci.toNat dfF) - (l.getD ci.toNat dfF).2.1.length)) (wN ρ (rN ρ + 1))) := by
  show (if rN ρ = 20000 then _ else _) = _
  split
  · rfl
  · generalize evK u n G tx z (cal u n G tx z l k) (S.length - (l.getD ci.toNat dfF).2.1.length) (scP u n (l.getD ci.toNat dfF).2.1) (l.getD ci.toNat dfF).2.2.2 (S ++ zr (slF u n G (l.getD ci.toNat dfF) - (l.getD ci.toNat dfF).2.1.length)) (wN ρ (rN ρ + 1)) = r
    match r with
    | .error e => rfl
    | .ok (true, q, ρ') => rfl
    | .ok (false, q, ρ') => rfl
/-- what is to follow behind a call -/
def KFn (t : Int) (D : Nat) (v0 : Mem) (n z dp bk : Nat) (FB : List (Nat × Nat)) (S0 : List Rw) (a : Int) (Q : Int → Mem → Prop) (r : XE) : Prop := match r with
  | .error e => ∀ v', CE v0 z e.1 0 e.2 v' → Q e.1 v'
  | .ok q => (1 ≤ FB.length → ∀ v' i', CM v0 n z dp bk FB (S0 ++ q.1) q.2 v' → rK q.2 ≤ i' → i' ≤ 420 * rN q.2 + a → LLc t D i' v' Q) ∧ (FB.length = 0 → ∀ v', CE v0 z 0 (g2 q.1 0).2.1 q.2 v' → Q 0 v')
theorem KX.kfn {t : Int} {D : Nat} {v0 : Mem} {n z dp bk : Nat} {FB : List (Nat × Nat)} {S0 : List Rw} {a : Int} {Q : Int → Mem → Prop} {r : XE} (h : KX t D v0 n z dp bk FB S0 a Q r) (hF : 1 ≤ FB.length) : KFn t D v0 n z dp bk FB S0 a Q r := by
  match r, h with
  | .error e, h => exact h
  | .ok q, h => exact ⟨fun _ => h, fun h0 => absurd h0 (by omega)⟩
/-- behind a BLOCK without return: 0 or the empty text -/
theorem KFn.ky {t : Int} {D : Nat} {v0 : Mem} {n z dp bk pc B sl : Nat} {ty : Int} {FB : List (Nat × Nat)} {S0 : List Rw} {a : Int} {Q : Int → Mem → Prop} {r : XS} (h : KFn t D v0 n z dp bk FB S0 a Q (fnE S0 r)) (hat : AtK v0 pc (finA ty)) (hS : ∀ S' ρ', r = .ok (false, S', ρ') → S'.length = B + sl ∧ S'.take B = S0) (hM : B + sl < 1400) (ha : a ≤ 400) : KY t D v0 n z dp pc FB B bk S0 (a - 2) Q r := by
  match r, h, hS with
  | .error e, h, hS => exact h
  | .ok (true, q, ρ'), h, hS => exact ⟨fun hf v' i' c c1 c2 => h.1 hf v' i' c c1 (by show (i' : Int) ≤ 420 * ((rN ρ' : Nat) : Int) + a; omega), h.2⟩
  | .ok (false, S', ρ'), h, hS =>
    intro v' i' c c1 c2
    obtain ⟨s1, s2⟩ := hS S' ρ' rfl
    have h : (1 ≤ FB.length → ∀ v' i', CM v0 n z dp bk FB (S0 ++ [(-1, 0, 0)]) (wH ρ' (gc (S0 ++ [(-1, 0, 0)]) z0 (rH ρ'))) v' → rK ρ' ≤ i' → i' ≤ 420 * rN ρ' + a → LLc t D i' v' Q) ∧ (FB.length = 0 → ∀ v', CE v0 z 0 0 (wH ρ' (gc (S0 ++ [(-1, 0, 0)]) z0 (rH ρ'))) v' → Q 0 v') := h
    have key : ∀ v2, CM v0 n z dp (pc + 1) (FB ++ [(B, bk)]) (S' ++ [(-1, 0, 0)]) ρ' v2 → LLc t D (i' + 1) v2 Q := by
      intro v2 k2
      have e1 : S' ++ [((-1 : Int), (0 : Int), (0 : Int))] = S'.take B ++ (S'.drop B ++ [(-1, 0, 0)]) := by rw [← List.append_assoc, List.take_append_drop]
      rw [e1] at k2
      subst s2
      exact act_c (a := a - 1) k2 (by omega) (by omega) (at_ret k2 hat.tl.act (by rw [List.length_take]; omega) (fun hf v3 k3 => h.1 hf v3 (i' + 1 + 1) k3 (by omega) (by omega)) (fun hf v3 c3 => end_c c3 (by decide) (h.2 hf v3 c3)))
    unfold finA at hat
    by_cases c0 : ty = 1
    · rw [if_pos c0] at hat
      exact act_c c c2 (by omega) (at_quo c (by omega) hat.act (rok.int (by decide) (by decide)) key)
    · rw [if_neg c0] at hat
      exact act_c c c2 (by omega) (at_num c (by omega) hat.act ⟨by decide, by decide⟩ key)
theorem nfG_at {u : Nat → Int} {n : Nat} {G : Fn} : ∀ (l : List FnT) (fi : Nat), nfG u n G fi l = [] → ∀ q ∈ l, nfB u n G (scP u n q.2.1) q.2.2.2 = [] := by
  intro l
  induction l with
  | nil => intro fi _ q hq; cases hq
  | cons x l ih =>
    intro fi h q hq
    have h : nfF u n G fi x ++ nfG u n G (fi + 1) l = [] := h
    obtain ⟨h1, h2⟩ := List.append_eq_nil_iff.mp h
    rcases List.mem_cons.mp hq with e | e
    · subst e
      unfold nfF at h1
      exact (List.append_eq_nil_iff.mp (List.append_eq_nil_iff.mp h1).2).2
    · exact ih _ h2 q e
theorem P6_of {u : Nat → Int} {n : Nat} {l : List FnT} (hf : fsok u n l) : P6 (l.map (fnOf u n)) := by
  intro x
  by_cases c : fno (l.map (fnOf u n)) x = -1
  · unfold fnP
    rw [c, if_pos (by decide)]
    exact Nat.zero_le _
  · obtain ⟨ci, e1, e2, e3⟩ := fno_at c
    rw [List.length_map] at e2
    rw [e3, getD_mp (d := dfF) l ci e2]
    have := (hf _ (getD_mem (d := dfF) l ci e2)).1.2.1
    show ((l.getD ci dfF).2.1.map _).length ≤ 6
    rw [List.length_map]
    exact this
/-- a FUNCTION is run: its rows stand -/
theorem fn_run {t : Int} {D : Nat} {v0 : Mem} {u : Nat → Int} {b0 : Nat → Int} {n z dp : Nat} {FB : List (Nat × Nat)} {l : List FnT} {B bk en k : Nat} {q : FnT} (hn : n ≤ 3000) (hu : u = uB b0 n) (hf : fsok u n l) (hnf : nfG u n (l.map (fnOf u n)) 0 l = []) (hq : q ∈ l) (hsc : SC t D v0 n z dp (FB ++ [(B, bk)]) (l.map (fnOf u n)) (cal u n (l.map (fnOf u n)) (v0 14) z l k) (103 * (FB.length + 1))) (hB : B ≤ 103 * FB.length) (hF : FB.length < 12) (hat : AtK v0 en (coF u n (l.map (fnOf u n)) q en)) {S : List Rw} {ρ : Rho} {v : Mem} {i : Nat} {a : Int} {Q : Int → Mem → Prop} (hS : S.length = B + slF u n (l.map (fnOf u n)) q) (c : CM v0 n z dp en (FB ++ [(B, bk)]) S ρ v) (h1 : rK ρ ≤ i) (h2 : i ≤ 420 * rN ρ + a) (ha : a ≤ 90)
    (hK : KFn t D v0 n z dp bk FB (S.take B) (a + 3) Q (fnE (S.take B) (evK u n (l.map (fnOf u n)) (v0 14) z (cal u n (l.map (fnOf u n)) (v0 14) z l k) B (scP u n q.2.1) q.2.2.2 S ρ))) : LLc t D i v Q := by
  obtain ⟨wf, bd⟩ := hf q hq
  have sb := slF_b (G := l.map (fnOf u n)) wf
  have hcl : ∀ ci S ρ, rN ρ ≤ 20000 → okE 1 0 ρ (cal u n (l.map (fnOf u n)) (v0 14) z l k ci S ρ) := fun ci S ρ h => cal_ok hf k ci S ρ h
  have hl : (scP u n q.2.1).length = q.2.1.length := List.length_map ..
  have wS := wf.2.2.2.1
  have hb := SB_all (t := t) (D := D) (v0 := v0) (z := z) (dp := dp) (FB := FB) (B := B) (bk := bk) (sl := slF u n (l.map (fnOf u n)) q) hn hu (by omega) (P6_of hf) hcl hsc (by omega) _ q.2.2.2 (Nat.lt_succ_self _) wS 8 bd (scP u n q.2.1) q.2.1.length (nfG_at l 0 hnf q hq) (by omega) (Nat.le_refl _)
  have hk := sk_of hcl hb wS bd (scB_mx _ _ (Nat.lt_succ_self _) wS q.2.1.length _ (by omega))
  have hat : AtK v0 en ((coB u n (l.map (fnOf u n)) (scP u n q.2.1) q.2.2.2 en ++ clr (scP u n q.2.1) (scB u n (l.map (fnOf u n)) (scP u n q.2.1) q.2.2.2)) ++ finA q.2.2.1) := hat
  obtain ⟨at1, at2⟩ := hat.app
  refine hk S (S.take B) ρ v en i a Q hS rfl at1 c h1 h2 (by omega) ?_
  have ok := evK_ok (G := l.map (fnOf u n)) (tx := v0 14) (z := z) (B := B) hcl wS bd (L := scP u n q.2.1) (S := S) (ρ := ρ) c.2.2.2.2.1.1
  have hy := KFn.ky (B := B) (sl := slF u n (l.map (fnOf u n)) q) (ty := q.2.2.1) hK at2 (fun S' ρ' er => by
    rw [er] at ok
    exact ⟨ok.2.1.trans hS, ok.2.2⟩) (by omega) (by omega)
  exact hy.less (by omega)
theorem take_pre {S q r : List Rw} : ((S ++ q) ++ r).take S.length = S := by
  rw [List.append_assoc, List.take_left]
/-- THE CLASS CALLS AS cal SAYS -/
theorem SC_all {t : Int} {D : Nat} {v0 : Mem} {u : Nat → Int} {b0 : Nat → Int} {n z dp : Nat} {l : List FnT} (hn : n ≤ 3000) (hu : u = uB b0 n) (hC : CLD v0 u n l) (hf : fsok u n l) (hnf : nfG u n (l.map (fnOf u n)) 0 l = []) (hdp : dp ≤ 12) : ∀ (k : Nat) (FB : List (Nat × Nat)), FB.length + k = dp → 1 ≤ FB.length → SC t D v0 n z dp FB (l.map (fnOf u n)) (cal u n (l.map (fnOf u n)) (v0 14) z l k) (103 * FB.length) := by
  intro k
  induction k with
  | zero =>
    intro FB hk hF x S0 q ρ v pc i a Q hx hl c hat hM h1 h2 ha hK
    obtain ⟨ci, e1, e2, e3⟩ := fno_at hx
    rw [List.length_map] at e2
    obtain ⟨en, fa, -⟩ := fn_at hC hf e2
    have sb := fa.2.2.2.2
    have hl2 : (l.getD ci dfF).2.1.length = q.length := by
      rw [← hl, e3, getD_mp (d := dfF) l ci e2]
      exact (List.length_map ..).symm
    have hll : (S0 ++ q).length = S0.length + q.length := List.length_append ..
    rw [e1] at hat
    refine act_c c h2 (by omega) (at_call c hat.act fa (by omega) (by omega) hdp (fun _ v' c' => end_c c' (by decide) (hK v' c')) (fun h => absurd h (by omega)) (fun h => absurd h (by omega)))
  | succ k ih =>
    intro FB hk hF x S0 q ρ v pc i a Q hx hl c hat hM h1 h2 ha hK
    obtain ⟨ci, e1, e2, e3⟩ := fno_at hx
    rw [List.length_map] at e2
    obtain ⟨en, fa, fat⟩ := fn_at hC hf e2
    have sb := fa.2.2.2.2
    have hl2 : (l.getD ci dfF).2.1.length = q.length := by
      rw [← hl, e3, getD_mp (d := dfF) l ci e2]
      exact (List.length_map ..).symm
    have hll : (S0 ++ q).length = S0.length + q.length := List.length_append ..
    rw [e1] at hat hK
    rw [cal_succ, Int.toNat_natCast, hl2, hll, Nat.add_sub_cancel, List.take_left] at hK
    refine act_c c h2 (by omega) (at_call c hat.act fa (by omega) (by omega) hdp (fun h => absurd h (by omega)) (fun hlt hN v' c' => ?_) (fun hlt hN v' c' => ?_))
    · rw [if_neg (by omega)] at hK
      rw [hl2, hll, Nat.add_sub_cancel] at c'
      have ht : ((S0 ++ q) ++ zr (slF u n (l.map (fnOf u n)) (l.getD ci dfF) - q.length)).take S0.length = S0 := take_pre
      refine fn_run (a := a - 419) hn hu hf hnf (getD_mem (d := dfF) l ci e2) (ih (FB ++ [(S0.length, pc + 1)]) (by rw [List.length_append]; show FB.length + 1 + k = dp; omega) (by rw [List.length_append]; show 1 ≤ FB.length + 1; omega) |> fun h => by rw [List.length_append] at h; exact h) (by omega) (by omega) fat (by rw [List.length_append, hll, zr_len]; omega) c' (by show rK ρ ≤ i + 1; omega) (by show ((i + 1 : Nat) : Int) ≤ 420 * ((rN ρ + 1 : Nat) : Int) + _; omega) (by omega) ?_
      rw [ht]
      have hK2 := hK.kfn hF
      generalize fnE S0 (evK u n (l.map (fnOf u n)) (v0 14) z (cal u n (l.map (fnOf u n)) (v0 14) z l k) S0.length (scP u n (l.getD ci dfF).2.1) (l.getD ci dfF).2.2.2 ((S0 ++ q) ++ zr (slF u n (l.map (fnOf u n)) (l.getD ci dfF) - q.length)) (wN ρ (rN ρ + 1))) = r at hK2
      match r, hK2 with
      | .error e, h => exact h
      | .ok q', h => exact ⟨fun hf v' i' g g1 g2 => h.1 hf v' i' g g1 (by omega), h.2⟩
    · rw [if_pos hN] at hK
      exact end_c c' (by decide) (hK v' c')
theorem pack_m3 {t : Int} {d : Nat} {v : Mem} {Q : Int → Mem → Prop} (hq : Q 660205 v) : RR t (d + 4) 158 [(2, (-5))] v Q := by
  have e0 : w64 ((w64 ((0 : Int) * 37)) + (f_170 (List.getD (sB.getD 3 []) (Int.toNat 0) 0) v)) = 13 := by rfl
  have e1 : w64 ((w64 ((13 : Int) * 37)) + (f_170 (List.getD (sB.getD 3 []) (Int.toNat (w32 (0 + 1))) 0) v)) = 482 := by rfl
  have e2 : w64 ((w64 ((482 : Int) * 37)) + (f_170 (List.getD (sB.getD 3 []) (Int.toNat (w32 (w32 (0 + 1) + 1))) 0) v)) = 17843 := by rfl
  have e3 : w64 ((w64 ((17843 : Int) * 37)) + (f_170 (List.getD (sB.getD 3 []) (Int.toNat (w32 (w32 (w32 (0 + 1) + 1) + 1))) 0) v)) = 660205 := by rfl
  refine w_158_s3 (s_158_s3_4 (d := d) ⟨fun _ => ⟨by decide, ?_⟩, fun c => absurd (by decide) c⟩)
  rw [e0]
  refine s_158_s3_4 (d := d) ⟨fun _ => ⟨by decide, ?_⟩, fun c => absurd (by decide) c⟩
  rw [e1]
  refine s_158_s3_4 (d := d) ⟨fun _ => ⟨by decide, ?_⟩, fun c => absurd (by decide) c⟩
  rw [e2]
  refine s_158_s3_4 (d := d) ⟨fun _ => ⟨by decide, ?_⟩, fun c => absurd (by decide) c⟩
  rw [e3]
  exact s_158_s3_4 (d := d) ⟨fun c => absurd c (by decide), fun _ => hq⟩
/-- the heap is empty -/
theorem clear_rr {t : Int} {d : Nat} {v : Mem} {Q : Int → Mem → Prop} {z : Nat} (hz : z ≤ 4000) (hq : ∀ v', (∀ c, ¬ (15 ≤ c ∧ c ≤ 19) → v' c = v c) → HC v' z [] 0 0 (fun _ => 0) → Q 0 v') : RR t (d + 1) 32 [(2, 15), (0, (z : Int))] v Q := by
  have lp : ∀ (m i : Nat) (w : Mem), i + m = 4000 → (∀ c, ¬ (15 ≤ c ∧ c ≤ 19) → w c = v c) → (∀ j, j < i → w 18 j = 0 ∧ w 19 j = 0) → LL t (d + 1) 32 2 [(2, 15), (0, (z : Int)), (0, (i : Int))] [] w Q := by
    intro m
    induction m with
    | zero =>
      intro i w hi hw hz0
      have hi : i = 4000 := by omega
      subst hi
      refine s_32_2 ⟨fun c => absurd c (by omega), fun _ => ?_⟩
      have ez : f_275 0 (f_276 (z : Int) 4000 (up (up w 16 4000 4000) 17 4000 4000)) (up (up w 16 4000 4000) 17 4000 4000) = (z : Int) := by
        have e1 : f_276 (z : Int) 4000 (up (up w 16 4000 4000) 17 4000 4000) = (z : Int) := by
          unfold f_276
          by_cases c : (4000 : Int) < (z : Int)
          · omega
          · first | rw [if_neg c] | (split <;> omega)
        rw [e1]
        unfold f_275
        split <;> omega
      rw [ez]
      refine hq _ (fun c hc => ?_) ⟨⟨hz, Nat.zero_le _, ?_, ?_⟩, ⟨?_, ?_, ?_, ?_, ?_, Or.inl ?_⟩, fun p hp => ?_, fun p hp _ => ⟨?_, rfl⟩⟩
      · rw [up_ne (by omega), up_ne (by omega), up_ne (by omega), up_ne (by omega), up_ne (by omega), up_ne (by omega), up_ne (by omega), up_ne (by omega)]
        exact hw c hc
      · rfl
      · rfl
      · rfl
      · rfl
      · rfl
      · rfl
      · rfl
      · rfl
      · rw [up_ne (by decide), up_ne (by decide), up_ne (by decide), up_ne (by decide), up_ne (by decide), up_ne (by decide), up_ne (by decide), up_ne (by decide)]
        exact (hz0 p hp).2
      · rw [up_ne (by decide), up_ne (by decide), up_ne (by decide), up_ne (by decide), up_ne (by decide), up_ne (by decide), up_ne (by decide), up_ne (by decide)]
        exact (hz0 p hp).1
    | succ m ih =>
      intro i w hi hw hz0
      refine s_32_2 ⟨fun _ => ⟨⟨by omega, by omega⟩, ⟨by omega, by omega⟩, ?_⟩, fun c => absurd (by omega) c⟩
      rw [wS (k := i) (m := 4000) (by omega) (by decide), Int.toNat_natCast]
      refine ih (i + 1) _ (by omega) (fun c hc => by rw [up_ne (by omega), up_ne (by omega)]; exact hw c hc) (fun j hj => ?_)
      by_cases e : j = i
      · subst e
        exact ⟨by rw [up_ne (by decide), up_k], by rw [up_k]⟩
      · exact ⟨by rw [up_ne (by decide), up_nk e]; exact (hz0 j (by omega)).1, by rw [up_nk e, up_ne (by decide)]; exact (hz0 j (by omega)).2⟩
  exact w_32 (lp 4000 0 v (by omega) (fun _ _ => rfl) (fun j hj => absurd hj (Nat.not_lt_zero _)))
/-- a run begins: no blocks, nothing told -/
def rho0 (v : Mem) : Rho := ([], fun p => v 14 (3000 + p), [], 0, 0, 0)
/-- THE CLASS RUNS AS cal SAYS -/
theorem start_rr {t : Int} {D : Nat} {v : Mem} {u : Nat → Int} {n z dp : Nat} {l : List FnT} {Q : Int → Mem → Prop} (hC : CLD v u n l) (hg : GOOD u n l) (hz : z ≤ 4000) (h1 : 1 ≤ dp) (h2 : dp ≤ 12)
    (hq : match cal u n (l.map (fnOf u n)) (v 14) z l dp (fno (l.map (fnOf u n)) 660205) [] (rho0 v) with
      | .error e => ∀ v', CE v z e.1 0 e.2 v' → Q e.1 v'
      | .ok q => ∀ v', CE v z 0 (g2 q.1 0).2.1 q.2 v' → Q 0 v') : RR t (D + 21) 52 [(2, 31), (0, (z : Int)), (0, (dp : Int))] v Q := by
  obtain ⟨hn, hp, hnf, hm, -⟩ := hg
  have hf : fsok u n l := fun q hq => ⟨PPr_wf _ _ _ _ l hp q hq, PPr_bd _ _ _ _ l hp q hq⟩
  have hu : u = uB (v 14) n := hC.2.2.2.2.2.symm
  have hF := hC.1
  obtain ⟨ci, e1, e2, e3⟩ := fno_at hm.1
  rw [List.length_map] at e2
  obtain ⟨en, fa, fat⟩ := fn_at hC hf e2
  have sb := fa.2.2.2.2
  have hl2 : (l.getD ci dfF).2.1.length = 0 := by
    have := e3.symm.trans hm.2.1
    rw [getD_mp (d := dfF) l ci e2] at this
    have h3 : ((l.getD ci dfF).2.1.map (fun p => p.2)).length = 0 := by rw [show (l.getD ci dfF).2.1.map (fun p => p.2) = [] from this]; rfl
    rwa [List.length_map] at h3
  obtain ⟨k, rfl⟩ : ∃ k, dp = k + 1 := ⟨dp - 1, by omega⟩
  rw [hl2] at fa
  refine s_52 (d := D + 20) (clear_rr (d := D + 19) hz (fun v1 g1 g2 => pack_m3 (d := D + 16) ?_))
  generalize hv2 : up (up (up (up (up (up (up v1 31 7 0) 31 8 ((k + 1 : Nat) : Int)) 31 9 0) 31 10 0) 31 11 0) 31 12 0) 31 13 (-1) = v2
  have c2 : ∀ c, c ≠ 31 → v2 c = v1 c := fun c hc => by rw [← hv2, up_ne hc, up_ne hc, up_ne hc, up_ne hc, up_ne hc, up_ne hc, up_ne hc]
  have c3 : ∀ c, ¬ (15 ≤ c ∧ c ≤ 19) → c ≠ 31 → c ≠ 32 → v2 c = v c := fun c a1 a2 a3 => by rw [c2 c a2, g1 c a1, up_ne a3]
  have e24 : v2 2 = v 2 := c3 2 (by omega) (by decide) (by decide)
  have e1l : v2 1 = v 1 := c3 1 (by omega) (by decide) (by decide)
  refine ffind_rr (c := (l.map (fnOf u n)).length) (by rw [e1l]; exact hF.1) hF.2.1 ?_
  have ef : fndA (v2 2) 660205 (l.map (fnOf u n)).length 0 = fno (l.map (fnOf u n)) 660205 := by
    rw [e24]
    exact fndA_eq _ _ (fun j _ hj => (hF.2.2 j (by omega)).1)
  rw [ef, e1]
  have cm : CM v n z (k + 1) 0 [] [] (rho0 v) v2 := by
    refine ⟨⟨⟨?_, Nat.zero_le _, fun i hi => absurd hi (Nat.not_lt_zero _)⟩, ?_, fun r hr => absurd hr (List.not_mem_nil), fun p => Nat.zero_le _⟩, fun b hb => absurd hb (List.not_mem_nil), fun r hr => absurd hr (List.not_mem_nil), ⟨?_, ?_, ?_, ?_, ?_, ?_, ?_⟩, ⟨Nat.zero_le _, Nat.zero_le _, Nat.zero_le _⟩, fun i hi => absurd hi (Nat.not_lt_zero _), ⟨?_, ?_, fun i hi => absurd hi (Nat.not_lt_zero _)⟩, ?_⟩
    · rw [c2 32 (by decide), g1 32 (by omega), up_k]; rfl
    · have := HC.cells (v' := v2) g2 (fun c a1 a2 => c2 c (by omega))
      exact this
    · rw [← hv2]; rfl
    · rw [← hv2]; rfl
    · rw [← hv2]; rfl
    · rw [← hv2]; rfl
    · rw [← hv2]; rfl
    · rw [← hv2]; rfl
    · rw [← hv2]; rfl
    · intro a ha
      rw [c3 14 (by omega) (by decide) (by decide)]
    · intro p hp
      rw [c3 14 (by omega) (by decide) (by decide)]
      rfl
    · intro c a1 a2 a3
      exact c3 c (by omega) (by omega) (by omega)
  have hE := hq
  rw [e1, cal_succ, Int.toNat_natCast, hl2, if_neg (show ¬ rN (rho0 v) = 20000 from (by decide : ¬ (0 : Nat) = 20000))] at hq
  refine cl_rr (d := D + 16) cm fa (Nat.zero_le _) (by show 0 + _ ≤ 1440; omega) h2 (fun h => absurd h (by show ¬ k + 1 ≤ 0; omega)) (fun hlt hN v3 c3' => ?_) (fun hlt hN => absurd hN (show ¬ (0 : Nat) = 20000 by decide))
  have hsc := SC_all (t := t) (D := D) (v0 := v) (z := z) (dp := k + 1) hn hu hC hf hnf h2 k ([] ++ [(0, 0)]) (by show 1 + k = k + 1; omega) (by show 1 ≤ 1; omega)
  have hk : KFn t D v n z (k + 1) 0 [] [] 3 Q (fnE ([].take (([] : List Rw).length - 0)) (evK u n (l.map (fnOf u n)) (v 14) z (cal u n (l.map (fnOf u n)) (v 14) z l k) (([] : List Rw).length - 0) (scP u n (l.getD ci dfF).2.1) (l.getD ci dfF).2.2.2 ([] ++ zr (slF u n (l.map (fnOf u n)) (l.getD ci dfF) - 0)) (wN (rho0 v) (rN (rho0 v) + 1)))) := by
    generalize fnE ([].take (([] : List Rw).length - 0)) (evK u n (l.map (fnOf u n)) (v 14) z (cal u n (l.map (fnOf u n)) (v 14) z l k) (([] : List Rw).length - 0) (scP u n (l.getD ci dfF).2.1) (l.getD ci dfF).2.2.2 ([] ++ zr (slF u n (l.map (fnOf u n)) (l.getD ci dfF) - 0)) (wN (rho0 v) (rN (rho0 v) + 1))) = r at hq
    match r, hq with
    | .error e, h => exact h
    | .ok q', h => exact ⟨fun h0 => absurd h0 (by decide), fun _ => h⟩
  have hN1 : rN (rho0 v) + 1 = 1 := rfl
  exact fn_run (FB := []) (B := 0) (bk := 0) (k := k) (a := 0) (i := 0) hn hu hf hnf (getD_mem (d := dfF) l ci e2) hsc (Nat.zero_le _) (by decide) fat (by rw [List.length_append, zr_len]; show 0 + _ = 0 + _; omega) c3' (by show 0 ≤ 0; omega) (by show ((0 : Nat) : Int) ≤ 420 * ((0 + 1 : Nat) : Int) + 0; omega) (by decide) hk
