/-! The reference calls FUNCTIONS: tables, entering, coming back. -/
theorem RPr2_g {v : Mem} {u : Nat → Int} {n : Nat} {G : Fn} : ∀ (l : List FnT) (fi st nd fi' st' nd' : Nat), RPr2 v u n G l fi st nd fi' st' nd' → (st ≤ st' ∧ nd ≤ nd') ∧ ∀ k, k < l.length → ∃ s s1 m m1 : Nat, RF2 v u n G (l.getD k dfF) (fi + k) s s1 m m1 ∧ s1 ≤ st' ∧ m1 ≤ nd' := by
  intro l
  induction l with
  | nil =>
    intro fi st nd fi' st' nd' h
    obtain ⟨-, e1, e2⟩ := h
    exact ⟨⟨by omega, by omega⟩, fun k hk => absurd hk (Nat.not_lt_zero _)⟩
  | cons q l ih =>
    intro fi st nd fi' st' nd' h
    obtain ⟨st1, nd1, h1, h2, h3, h4⟩ := h
    obtain ⟨⟨i1, i2⟩, i3⟩ := ih _ _ _ _ _ _ h4
    refine ⟨⟨by omega, by omega⟩, fun k hk => ?_⟩
    match k, hk with
    | 0, _ => exact ⟨st, st1, nd, nd1, h3, i1, i2⟩
    | k + 1, hk =>
      obtain ⟨s, s1, m, m1, g1, g2, g3⟩ := i3 k (by simp at hk; omega)
      rw [show fi + 1 + k = fi + (k + 1) from by omega] at g1
      exact ⟨s, s1, m, m1, g1, g2, g3⟩
theorem tfG_at {u : Nat → Int} {n : Nat} {G : Fn} : ∀ (l : List FnT), tfG u n G l = [] → ∀ q ∈ l, tfB u n G q.2.2.1 (scP u n q.2.1) q.2.2.2 = [] := by
  intro l
  induction l with
  | nil => intro _ q hq; cases hq
  | cons x l ih =>
    intro h q hq
    have h : tfF u n G x ++ tfG u n G l = [] := h
    obtain ⟨h1, h2⟩ := List.append_eq_nil_iff.mp h
    rcases List.mem_cons.mp hq with e | e
    · subst e; exact h1
    · exact ih h2 q e
theorem RPs_g {v : Mem} {u : Nat → Int} {n fi : Nat} : ∀ (l : List (Nat × Int)) (np : Nat), RPs v u n fi np l → ∀ k, k < l.length → v 48 (6 * fi + (np + k)) = (l.getD k (0, 0)).2 := by
  intro l
  induction l with
  | nil => intro np _ k hk; exact absurd hk (Nat.not_lt_zero _)
  | cons q l ih =>
    intro np h k hk
    match k, hk with
    | 0, _ => exact h.1.2.2
    | k + 1, hk =>
      have := ih (np + 1) h.2 k (by simp at hk; omega)
      rw [show np + 1 + k = np + (k + 1) from by omega] at this
      exact this
theorem FTy_of {v0 : Mem} {u : Nat → Int} {n : Nat} {l : List FnT} (hR : RLD v0 u n l) (hty : ∀ q ∈ l, tyF q) : FTy v0 (l.map (fnOf u n)) := by
  obtain ⟨⟨st', nd', h1, -, -⟩, -, h20, -⟩ := hR
  refine ⟨by rw [List.length_map]; exact h20, fun ci hci => ?_⟩
  rw [List.length_map] at hci
  rw [getD_mp (d := dfF) l ci hci]
  obtain ⟨s, s1, m, m1, g1, -⟩ := (RPr2_g l _ _ _ _ _ _ h1).2 ci hci
  rw [Nat.zero_add] at g1
  exact ⟨g1.2.2.2.1, (hty _ (getD_mem (d := dfF) l ci hci)).2⟩
/-- the new frame stands -/
theorem RZ.enter {v0 v1 w : Mem} {n z dp ci N ex : Nat} {J : Jb} {FS : List Fr} {T : List TyR} {ρ : Rho} (h : RZ v0 n z dp J FS T ρ v1) (hF : FS.length < dp) (hN : (tmps FS).length = N) (hp : PLc v1 ci FS.length N T.length w) (h6 : T.length ≤ 6) (hty : ∀ k, k < T.length → v0 48 (6 * ci + k) = (T.getD k ((-1, 0, 0), 0)).2 ∧ ((T.getD k ((-1, 0, 0), 0)).2 = 0 ∨ (T.getD k ((-1, 0, 0), 0)).2 = 1)) : RX v0 n z dp 0 J (FS ++ [(T, ex, [])]) ρ (up (up (up (up w 38 52 (N : Int)) 72 FS.length (T.length : Int)) 38 57 ((FS.length + 1 : Nat) : Int)) 38 78 0) := by
  obtain ⟨a1, a2, a3, a4, a5, a6, a7⟩ := h
  obtain ⟨p1, p2, p3⟩ := hp
  subst hN
  generalize hv : up (up (up (up w 38 52 (((tmps FS).length : Nat) : Int)) 72 FS.length (T.length : Int)) 38 57 ((FS.length + 1 : Nat) : Int)) 38 78 0 = v2
  have c1 : ∀ c, c ≠ 38 → c ≠ 72 → v2 c = w c := fun c q1 q2 => by rw [← hv, up_ne q1, up_ne q1, up_ne q2, up_ne q1]
  have c2 : ∀ k, k ≠ 52 → k ≠ 57 → k ≠ 78 → v2 38 k = v1 38 k := fun k q1 q2 q3 => by rw [← hv, up_nk q3, up_nk q2, up_ne (by decide), up_nk q1, p1 38 (by decide) (by decide) (by decide) (by decide)]
  have c3 : ∀ c, c ≠ 38 → ¬ (69 ≤ c ∧ c ≤ 72) → c ≠ 80 → v2 c = v1 c := fun c q1 q2 q3 => by rw [c1 c q1 (by omega), p1 c (by omega) (by omega) (by omega) q3]
  have e52 : v2 38 52 = (((tmps FS).length : Nat) : Int) := by rw [← hv, up_nk (by decide), up_nk (by decide), up_ne (by decide), up_k]
  have e57 : v2 38 57 = ((FS.length + 1 : Nat) : Int) := by rw [← hv, up_nk (by decide), up_k]
  have e78 : v2 38 78 = 0 := by rw [← hv, up_k]
  have e72 : v2 72 FS.length = (T.length : Int) := by rw [← hv, up_ne (by decide), up_ne (by decide), up_k]
  have l72 : ∀ f, f < FS.length → v2 72 f = v1 72 f := fun f hf => by rw [← hv, up_ne (by decide), up_ne (by decide), up_nk (by omega), up_ne (by decide), p1 72 (by decide) (by decide) (by decide) (by decide)]
  have et : tmps (FS ++ [(T, ex, [])]) = tmps FS := by rw [tmps_1, List.append_nil]
  have lenS : (FS ++ [(T, ex, ([] : List TyR))]).length = FS.length + 1 := by rw [List.length_append]; rfl
  refine ⟨a1.same (c2 _ (by decide) (by decide) (by decide)) (c2 _ (by decide) (by decide) (by decide)) (c2 _ (by decide) (by decide) (by decide)) (fun c hc => c3 c (by omega) (by omega) (by omega)), ?_, ⟨?_, ?_, fun i hi => ?_⟩, ?_, ?_, fun b hb j hj => ?_, a7.trans (fun c q1 q2 => c3 c q2 (by omega) (by omega)) (fun k hk => c2 k (by omega) (by omega) (by omega))⟩
  · rw [a2]
    unfold gc
    refine List.filter_congr (fun b hb => ?_)
    rw [flat_1, cnt_app, cnt_app, cnt_app, cnt_app, cnt_zr]
    show decide (0 < cnt b.1 (flat FS) + cnt b.1 (rws T) + z0 b.1) = decide (0 < cnt b.1 (flat FS) + (cnt b.1 (rws T) + (0 + 0)) + z0 b.1)
    rw [Nat.add_zero]
  · rw [et]; exact e52
  · rw [et]
    have := a3.2.1
    rw [List.length_append] at this
    omega
  · rw [et] at hi ⊢
    rw [c3 66 (by decide) (by omega) (by decide), c3 67 (by decide) (by omega) (by decide), c3 68 (by decide) (by omega) (by decide)]
    have q := a3.2.2 i (by rw [List.length_append]; omega)
    rw [gd_app1 hi] at q
    exact q
  · refine (RLo_app _ _ _).mpr ⟨RLo.low (N := FS.length) l72 (fun c k hc hk => ?_) FS 0 (by omega) a4, ⟨?_, ?_, fun k hk => ?_⟩, trivial⟩
    · rw [c1 c (by omega) (by omega)]
      rcases p2 c k hk with g | g
      · exact g
      · omega
    · rw [Nat.zero_add]; exact e72
    · show T.length ≤ 30; omega
    · rw [Nat.zero_add]
      have hk : k < T.length := hk
      obtain ⟨g1, g2, g3, g4⟩ := p3 k hk
      obtain ⟨t1, t2⟩ := hty k hk
      have e48 : v1 48 = v0 48 := a7.1 48 (by omega) (by decide)
      rw [c1 69 (by decide) (by decide), c1 70 (by decide) (by decide), c1 71 (by decide) (by decide), c1 80 (by decide) (by decide), g1, g2, g3, g4, e48, t1]
      have q := a3.2.2 ((tmps FS).length + k) (by rw [List.length_append]; omega)
      rw [gdA] at q
      refine ⟨q, ?_⟩
      show (if (T.getD k ((-1, 0, 0), 0)).2 = 1 then (1 : Int) else 0) = (T.getD k ((-1, 0, 0), 0)).2
      rcases t2 with t2 | t2
      · rw [t2]; rfl
      · rw [t2]; rfl
  · rw [lenS]
    obtain ⟨⟨q1, q2, q3, q4⟩, ⟨q5, q6, q7⟩, ⟨q8, q9, q10, q11⟩, q12, q13⟩ := a5
    refine ⟨⟨e57, (c2 58 (by decide) (by decide) (by decide)).trans q2, by omega, q4⟩, ⟨(c2 66 (by decide) (by decide) (by decide)).trans q5, (c2 67 (by decide) (by decide) (by decide)).trans q6, e78⟩, ⟨(c2 68 (by decide) (by decide) (by decide)).trans q8, (c2 69 (by decide) (by decide) (by decide)).trans q9, (c2 70 (by decide) (by decide) (by decide)).trans q10, (c2 72 (by decide) (by decide) (by decide)).trans q11⟩, q12, fun i hi => ?_⟩
    rw [c3 79 (by decide) (by omega) (by decide)]
    exact q13 i hi
  · rw [c3 77 (by decide) (by omega) (by decide)]
    exact a6 b hb j hj
theorem RNu.back {v vb : Mem} {dp F : Nat} {ρ : Rho} (h : RNu (up v 38 78 0) 0 dp (F + 1) ρ) (hk : ∀ k, k ≠ 57 → ¬ (78 ≤ k ∧ k ≤ 81) → vb 38 k = v 38 k) (h57 : vb 38 57 = (F : Int)) (h78 : vb 38 78 = 0) (h79 : vb 79 = v 79) : RNu vb 0 dp F ρ := by
  obtain ⟨⟨q1, q2, q3, q4⟩, ⟨q5, q6, q7⟩, ⟨q8, q9, q10, q11⟩, q12, q13⟩ := h
  have e : ∀ k, k ≠ 57 → ¬ (78 ≤ k ∧ k ≤ 81) → vb 38 k = up v 38 78 0 38 k := fun k a b => by rw [hk k a b, up_nk (by omega)]
  refine ⟨⟨h57, (e 58 (by decide) (by omega)).trans q2, by omega, q4⟩, ⟨(e 66 (by decide) (by omega)).trans q5, (e 67 (by decide) (by omega)).trans q6, h78⟩, ⟨(e 68 (by decide) (by omega)).trans q8, (e 69 (by decide) (by omega)).trans q9, (e 70 (by decide) (by omega)).trans q10, (e 72 (by decide) (by omega)).trans q11⟩, q12, fun i hi => ?_⟩
  rw [h79]
  have := q13 i hi
  rwa [up_ne (by decide)] at this
theorem kz_body {t : Int} {d : Nat} {v0 : Mem} {n z dp sl : Nat} {FS : List Fr} {L : Sc} {rt : Int} {Q : Int → Mem → Prop} {r : XS} (hq : KZ v0 n z dp FS rt Q (fnE (flat FS) r)) (hl : (tmps FS).length < 1500) (hrt : rt = 0 ∨ rt = 1) (hF : FS.length < 12) : KRk v0 n z dp FS sl L rt (fun x1 v1 => ((x1 = 0 → (((0 : Int) = 0 ∨ (0 : Int) = 1) ∧ Q 0 v1)) ∧ (¬ x1 = 0 → (((v1 38 78) = 0 → (((0 : Int) = 0 ∨ (0 : Int) = 1) ∧ (RR t d 234 [(2, 38), (0, (-1)), (0, 0), (0, 0)] (up (up (up (up (up v1 38 79 (-1)) 38 80 0) 38 81 0) 38 78 0) 38 57 (w32 ((v1 38 57) - 1))) (fun x3 v3 => (((1 : Int) = 0 ∨ (1 : Int) = 1) ∧ Q 1 v3))))) ∧ (¬ (v1 38 78) = 0 → (((0 : Int) = 0 ∨ (0 : Int) = 1) ∧ (RR t d 234 [(2, 38), (0, (v1 38 79)), (0, (v1 38 80)), (0, (v1 38 81))] (up (up v1 38 78 0) 38 57 (w32 ((v1 38 57) - 1))) (fun x2 v2 => (((1 : Int) = 0 ∨ (1 : Int) = 1) ∧ Q 1 v2)))))))) ) r := by
  match r, hq with
  | .error er, hq => exact fun v' g => ⟨fun _ => ⟨Or.inl rfl, hq v' g⟩, fun c => absurd rfl c⟩
  | .ok (true, q, ρ'), hq =>
    intro r1 J' v' e1 g
    have hq : ∀ r1 J' v', q = [r1] → RZ v0 n z dp J' FS [(r1, rt)] ρ' v' → Q 1 v' := hq
    obtain ⟨⟨a1, a2, a3, a4⟩, ⟨b1, b2⟩, g1, g2, g3⟩ := g
    refine ⟨fun c => absurd c (by decide), fun _ => ⟨fun c => absurd c (by rw [b1]; decide), fun _ => ⟨Or.inl rfl, ?_⟩⟩⟩
    have h57 : v' 38 57 = ((FS.length + 1 : Nat) : Int) := by
      have := b2.1.1
      rwa [up_nk (by decide)] at this
    rw [h57, wNat (k := FS.length) (a := ((FS.length + 1 : Nat) : Int) - 1) (by omega) (by omega)]
    refine bk_push (J := J') (FS := FS) (ρ := ρ') (r := r1) (rt := rt) (a1.same ?_ ?_ ?_ (fun c hc => ?_)) a2 (a3.same ?_ (fun c hc => ?_)) (RLo.same (fun c hc => ?_) _ _ a4) (b2.back (fun k k1 k2 => ?_) ?_ ?_ ?_) (fun b hb j hj => ?_) (g2.trans (fun c c1 c2 => ?_) (fun k hk => ?_)) g3 hl (fun v3 h3 => hq r1 J' v3 e1 h3)
    · rw [up_nk (by decide), up_nk (by decide)]
    · rw [up_nk (by decide), up_nk (by decide)]
    · rw [up_nk (by decide), up_nk (by decide)]
    · rw [up_ne (by omega), up_ne (by omega)]
    · rw [up_nk (by decide), up_nk (by decide)]
    · rw [up_ne (by omega), up_ne (by omega)]
    · rw [up_ne (by omega), up_ne (by omega)]
    · rw [up_nk (by omega), up_nk (by omega)]
    · rw [up_k]
    · rw [up_nk (by decide), up_k]
    · rw [up_ne (by decide), up_ne (by decide)]
    · rw [up_ne (by decide), up_ne (by decide)]; exact g1 b hb j hj
    · rw [up_ne c2, up_ne c2]
    · rw [up_nk (by omega), up_nk (by omega)]
  | .ok (false, S', ρ'), hq =>
    intro Y' ex' J' v' e1 e2 e3 g
    have hq : ∀ r1 J' v', [((-1 : Int), (0 : Int), (0 : Int))] = [r1] → RZ v0 n z dp J' FS [(r1, rt)] (wH ρ' (gc (flat FS ++ [(-1, 0, 0)]) z0 (rH ρ'))) v' → Q 1 v' := hq
    obtain ⟨a1, a2, a3, a4, a5, a6, a7⟩ := g
    have et : tmps (FS ++ [(Y', ex', [])]) = tmps FS := by rw [tmps_1, List.append_nil]
    have lenS : (FS ++ [(Y', ex', ([] : List TyR))]).length = FS.length + 1 := by rw [List.length_append]; rfl
    rw [et] at a3
    rw [lenS] at a5
    have e78 : v' 38 78 = 0 := a5.2.1.2.2
    have h57 : v' 38 57 = ((FS.length + 1 : Nat) : Int) := a5.1.1
    refine ⟨fun c => absurd c (by decide), fun _ => ⟨fun _ => ⟨Or.inl rfl, ?_⟩, fun c => absurd e78 c⟩⟩
    have b2 : RNu (up v' 38 78 0) 0 dp (FS.length + 1) ρ' := a5.same (fun k hk => by
      by_cases c : k = 78
      · subst c; rw [up_k, e78]
      · rw [up_nk c]) (up_ne (by decide))
    have h4 := ((RLo_app _ _ _).mp a4).1
    have hr : rrw J' n (-1, 0, 0) rt (-1) 0 0 := by
      rcases hrt with e | e
      · rw [e]; exact rrw_int (by decide) (by decide)
      · rw [e]; exact Or.inr (Or.inl ⟨rfl, ⟨0, rfl, by decide, by decide⟩, rfl, rfl⟩)
    rw [h57, wNat (k := FS.length) (a := ((FS.length + 1 : Nat) : Int) - 1) (by omega) (by omega)]
    refine bk_push (J := J') (FS := FS) (ρ := wH ρ' (gc (flat FS ++ [(-1, 0, 0)]) z0 (rH ρ'))) (r := (-1, 0, 0)) (rt := rt) (a1.same ?_ ?_ ?_ (fun c hc => ?_)) ?_ (a3.same ?_ (fun c hc => ?_)) (RLo.same (fun c hc => ?_) _ _ h4) (RNu.back (v := v') b2 (fun k k1 k2 => ?_) ?_ ?_ ?_) (fun b hb j hj => ?_) (a7.trans (fun c c1 c2 => ?_) (fun k hk => ?_)) hr hl (fun v3 h3 => hq (-1, 0, 0) J' v3 rfl h3)
    · rw [up_nk (by decide), up_nk (by decide), up_nk (by decide), up_nk (by decide), up_nk (by decide)]
    · rw [up_nk (by decide), up_nk (by decide), up_nk (by decide), up_nk (by decide), up_nk (by decide)]
    · rw [up_nk (by decide), up_nk (by decide), up_nk (by decide), up_nk (by decide), up_nk (by decide)]
    · rw [up_ne (by omega), up_ne (by omega), up_ne (by omega), up_ne (by omega), up_ne (by omega)]
    · show gc (flat FS ++ [(-1, 0, 0)]) z0 (rH ρ') = _
      rw [a2]
      refine gc_sub (fun b hb' hp => ?_)
      rw [cnt_app] at hp
      have e0 : cnt b.1 [((-1 : Int), (0 : Int), (0 : Int))] = 0 := by
        show (if (-1 : Int) = ((b.1 : Nat) : Int) then 1 else 0) + 0 = 0
        rw [if_neg (by omega)]
      rw [e0] at hp
      rw [flat_1, cnt_app]
      omega
    · rw [up_nk (by decide), up_nk (by decide), up_nk (by decide), up_nk (by decide), up_nk (by decide)]
    · rw [up_ne (by omega), up_ne (by omega), up_ne (by omega), up_ne (by omega), up_ne (by omega)]
    · rw [up_ne (by omega), up_ne (by omega), up_ne (by omega), up_ne (by omega), up_ne (by omega)]
    · rw [up_nk (by omega), up_nk (by omega), up_nk (by omega), up_nk (by omega), up_nk (by omega)]
    · rw [up_k]
    · rw [up_nk (by decide), up_k]
    · rw [up_ne (by decide), up_ne (by decide), up_ne (by decide), up_ne (by decide), up_ne (by decide)]
    · rw [up_ne (by decide), up_ne (by decide), up_ne (by decide), up_ne (by decide), up_ne (by decide)]
      exact a6 b (gc_in.mp hb).1 j hj
    · rw [up_ne c2, up_ne c2, up_ne c2, up_ne c2, up_ne c2]
    · rw [up_nk (by omega), up_nk (by omega), up_nk (by omega), up_nk (by omega), up_nk (by omega)]
