/-! The reference reads a FUNCTION: from its ) on. -/
def TFr (fi st nd : Nat) (v v' : Mem) : Prop := (∀ c x, c ≠ 38 → (c < 44 ∨ 62 < c ∨ c = 56 ∨ ((c = 44 ∨ c = 45) ∧ x ≠ fi) ∨ (46 ≤ c ∧ c ≤ 48) ∨ (49 ≤ c ∧ c < 56 ∧ x < st) ∨ (57 ≤ c ∧ x < nd)) → v' c x = v c x) ∧ (∀ k, (k < 5 ∨ k = 7 ∨ (12 < k ∧ k < 22) ∨ (22 < k ∧ k < 31) ∨ (31 < k ∧ k < 38) ∨ 41 < k) → v' 38 k = v 38 k) ∧ NNr v v'
theorem TFr.trans {fi st nd : Nat} {v v' v'' : Mem} (h : TFr fi st nd v v') (h' : TFr fi st nd v' v'') : TFr fi st nd v v'' := ⟨fun c x a b => (h'.1 c x a b).trans (h.1 c x a b), fun k hk => (h'.2.1 k hk).trans (h.2.1 k hk), h.2.2.trans h'.2.2⟩
theorem TFr.sfr {fi st nd : Nat} {v v' : Mem} (h : SFr nd st v v') : TFr fi st nd v v' := ⟨fun c x hc hx => h.1 c x hc (by omega), fun k hk => h.2.1 k (by omega), h.2.2⟩
theorem TFr.s38 {fi st nd : Nat} {v v' : Mem} (h : S38 v v') : TFr fi st nd v v' := TFr.sfr (SFr.efr (EFr.s38 h))
theorem TFr.u38 {fi st nd : Nat} {v : Mem} {k : Nat} {a : Int} (hk : k = 5 ∨ k = 6 ∨ (8 ≤ k ∧ k ≤ 12) ∨ k = 22 ∨ k = 31 ∨ (38 ≤ k ∧ k ≤ 41)) (ha : 38 ≤ k → 0 ≤ a := by omega) (h6 : (k = 5 → a ≠ 0) ∧ (k = 6 → v 38 5 ≠ 0) := by first | omega | exact ⟨fun h => absurd h (by decide), fun _ => by show ¬ (1 : Int) = 0; decide⟩) : TFr fi st nd v (up v 38 k a) := TFr.sfr (SFr.u38 hk ha h6)
theorem TFr.upc {fi st nd : Nat} {v : Mem} {c : Nat} {a : Int} (h : c = 44 ∨ c = 45) : TFr fi st nd v (up v c fi a) := ⟨fun c' x' _ h1 => upc_ne (by omega), fun j _ => upc_ne (by omega), NNr.eq (fun j _ _ => upc_ne (by omega))⟩
def PoT (Q : Int → Mem → Prop) (v : Mem) (u : Nat → Int) (n fi st nd np i : Nat) (r : Except Nat (Int × Jvm.Term × Nat × Nat)) : Prop := match r with
  | .error j => ∀ v', FT1 v' u n j → TFr fi st nd v v' → Q 0 v'
  | .ok q => ∀ (v' : Mem) (nd' : Nat), SG v' u n q.2.2.1 q.2.2.2 0 np nd' → TFr fi st nd v v' → v' 44 fi = q.1 → RS v' u n q.2.1 st q.2.2.2 nd nd' (v' 45 fi) → nd ≤ nd' → st ≤ q.2.2.2 → q.2.2.2 ≤ 300 → i ≤ q.2.2.1 → nd' + i ≤ nd + q.2.2.1 → Q 1 v'
theorem tail_rr {t : Int} {F : Nat} {d : Nat} {v : Mem} {Q : Int → Mem → Prop} {u : Nat → Int} {n i st dp sc nd fi np : Nat} {r : Except Nat (Int × Jvm.Term × Nat × Nat)} (hp : PTl (kd u n) F i st np = some r) (hd : 560 ≤ d) (hg : SG v u n i st dp sc nd) (hst : st ≤ 300) (hfi : fi < 20) (hnp : v 43 fi = np) (hnp6 : np ≤ 6) (hq : PoT Q v u n fi st nd np i r) :
    RR t d 195 [(2, 38), (2, (-10))] v (fun x4 v4 => (x4 = 0 → Q 0 (m_194 (v4 38 10) v4)) ∧ (¬ x4 = 0 → RR t d 195 [(2, 38), (2, (-11))] v4 (fun x6 v6 => (x6 = 0 → Q 0 (m_194 (v6 38 10) v6)) ∧ (¬ x6 = 0 → RR t d 210 [(2, 38)] v6 (fun x8 v8 => (x8 = 0 → Q 0 (m_194 (v8 38 10) v8)) ∧ (¬ x8 = 0 → RR t d 211 [(2, 38)] v8 (fun x10 v10 => (0 ≤ (fi : Int) ∧ (fi : Int) < 20) ∧ (0 ≤ (fi : Int) ∧ (fi : Int) < 20) ∧ RR t d 207 [(2, 38)] (up (up (up v10 44 fi x10) 38 41 (v10 43 fi)) 38 40 0) (fun x11 v11 => (0 ≤ (fi : Int) ∧ (fi : Int) < 20) ∧ (0 ≤ (fi : Int) ∧ (fi : Int) < 20) ∧ ((up v11 45 fi x11 45 fi = (-2) → Q 0 (up v11 45 fi x11)) ∧ (¬ up v11 45 fi x11 45 fi = (-2) → Q 1 (up v11 45 fi x11))))))))))) := by
  have gd1 : (0 : Int) ≤ (fi : Int) ∧ (fi : Int) < 20 := ⟨by omega, by omega⟩
  obtain ⟨sg, nb, he⟩ := hg.1
  unfold PTl at hp
  have tf_of : ∀ {a b : Mem}, (∀ m, EFr m a b) → TFr fi st nd a b := fun h => TFr.sfr (SFr.efr (h nd))
  refine RR.deep (d := 0 + 9) (take_8 he (fun hk v4 b1 b2 => ?_) (fun hk v4 b1 b2 => ?_)) (by omega)
  · rw [if_pos hk] at hp
    refine ⟨fun c => absurd c (by decide), fun _ => ?_⟩
    have hg4 := hg.next he (by omega) (by omega) b1 (Nat.le_refl _) (st' := st) (dp' := dp) (sc' := sc) (by rw [b2.2 22 (by omega)]; exact hg.2.2.2.1) (by rw [b2.2 40 (by omega)]; exact hg.2.2.2.2.1) (by rw [b2.2 41 (by omega)]; exact hg.2.2.2.2.2)
    have f4 : TFr fi st nd v v4 := TFr.s38 b2
    refine RR.deep (d := 0 + 9) (take_9 b1 (fun hk6 v6 c1 c2 => ?_) (fun hk6 v6 c1 c2 => ?_)) (by omega)
    · rw [if_pos hk6] at hp
      refine ⟨fun c => absurd c (by decide), fun _ => ?_⟩
      have hg6 := hg4.next b1 (by omega) (by omega) c1 (Nat.le_refl _) (st' := st) (dp' := dp) (sc' := sc) (by rw [c2.2 22 (by omega)]; exact hg4.2.2.2.1) (by rw [c2.2 40 (by omega)]; exact hg4.2.2.2.2.1) (by rw [c2.2 41 (by omega)]; exact hg4.2.2.2.2.2)
      have f6 : TFr fi st nd v v6 := f4.trans (TFr.s38 c2)
      refine isType_rr c1 (by omega) (fun hty => ?_) (fun hty => ?_)
      · rw [if_pos hty] at hp
        refine ⟨fun c => absurd c (by decide), fun _ => type_rr c1 (by omega) hty (fun v8 g1 g2 => ?_)⟩
        have hg8 := hg6.next c1 (by omega) (by omega) g1 (Nat.le_refl _) (st' := st) (dp' := dp) (sc' := sc) (by rw [g2.2 22 (by omega)]; exact hg6.2.2.2.1) (by rw [g2.2 40 (by omega)]; exact hg6.2.2.2.2.1) (by rw [g2.2 41 (by omega)]; exact hg6.2.2.2.2.2)
        have e43 : v8 43 fi = np := by rw [g2.1 43 (by decide), c2.1 43 (by decide), b2.1 43 (by decide)]; exact hnp
        rw [e43]
        refine ⟨gd1, gd1, ?_⟩
        have hg9 : SG (up (up (up v8 44 fi (tyk (kd u n (i + 1 + 1)))) 38 41 (np : Int)) 38 40 0) u n (i + 1 + 1 + 1) st 0 np nd := hg8.upd rfl (fun k hk => by rw [up_nk (by omega), up_nk (by omega), up_ne (by decide)]) hg8.2.2.2.1 rfl rfl
        have f9 : TFr fi st nd v (up (up (up v8 44 fi (tyk (kd u n (i + 1 + 1)))) 38 41 (np : Int)) 38 40 0) := (((f6.trans (TFr.s38 g2)).trans (TFr.upc (by omega))).trans (TFr.u38 (by omega))).trans (TFr.u38 (by omega))
        have c44 : up (up (up v8 44 fi (tyk (kd u n (i + 1 + 1)))) 38 41 (np : Int)) 38 40 0 44 fi = tyk (kd u n (i + 1 + 1)) := by rw [up_ne (by decide), up_ne (by decide)]; exact up_k
        generalize up (up (up v8 44 fi (tyk (kd u n (i + 1 + 1)))) 38 41 (np : Int)) 38 40 0 = w at *
        cases hb : PS (kd u n) F 0 (i + 3) st 0 np with
        | none => rw [hb] at hp; cases hp
        | some rb =>
          rw [hb] at hp
          refine (CS_all t u n F).2.1 (i + 3) st 0 np rb hb d w _ nd (by unfold dS; omega) hg9 hst (by omega) (by omega) ?_
          cases rb with
          | error e =>
            have hp : some (Except.error e) = some r := hp
            cases hp
            intro v11 a1 a2
            refine ⟨gd1, gd1, fun _ => ?_, fun c => absurd up_k c⟩
            exact hq _ a1 ((f9.trans (TFr.sfr a2)).trans (TFr.upc (by omega)))
          | ok b =>
            have e2 := PS0_sc (l := b.1) (i' := b.2.1) (st' := b.2.2.1) (sc' := b.2.2.2) hb
            have hp : some (Except.ok (tyk (kd u n (i + 2)), b.1, b.2.1, b.2.2.1)) = some r := hp
            cases hp
            intro v11 nd' x a1 a2 a3 a4 a5 a6 a7 a8 a9
            have c45 : up v11 45 fi x 45 fi = x := up_k
            refine ⟨gd1, gd1, fun c => absurd (c45.symm.trans c) (by omega), fun _ => ?_⟩
            rw [e2] at a1
            refine hq _ nd' (a1.upd rfl (fun k _ => rfl) a1.2.2.2.1 a1.2.2.2.2.1 a1.2.2.2.2.2) ((f9.trans (TFr.sfr a2)).trans (TFr.upc (by omega))) ?_ ?_ a5 a6 a7 (by dsimp only; omega) (by dsimp only; omega)
            · rw [upc_ne (by omega), a2.1 44 fi (by decide) (by omega)]; exact c44
            · rw [c45]
              exact RS_same _ _ (Nat.lt_succ_self _) _ _ _ _ _ (fun c j c1 c2 c3 c4 => upc_ne (by omega)) (fun c j c1 c2 c3 c4 => upc_ne (by omega)) a3
      · rw [if_neg hty] at hp
        have hp : some (Except.error (i + 2)) = some r := hp
        cases hp
        refine ⟨fun _ => ?_, fun c => absurd rfl c⟩
        rw [m194 c1.2.2.2.2.2]
        exact hq _ ⟨rfl, c1.at⟩ ((f6.trans (TFr.u38 (by omega))).trans (TFr.u38 (by omega)))
    · rw [if_neg hk6] at hp
      have hp : some (Except.error (i + 1)) = some r := hp
      cases hp
      refine ⟨fun _ => ?_, fun c => absurd rfl c⟩
      rw [m194' c1.1]
      exact hq _ c1 (f4.trans (tf_of c2))
  · rw [if_neg hk] at hp
    have hp : some (Except.error i) = some r := hp
    cases hp
    refine ⟨fun _ => ?_, fun c => absurd rfl c⟩
    rw [m194' b1.1]
    exact hq _ b1 (tf_of b2)
