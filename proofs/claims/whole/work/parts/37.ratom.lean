/-! The reference reads an E: what is handed over. -/
theorem EFr.less {nd lo : Nat} {v v' : Mem} (h : EFr nd v v') (hl : lo ≤ nd) : EFr lo v v' := ⟨fun c x a b => h.1 c x a (by omega), h.2⟩
theorem EFr.all {v v' : Mem} (h : ∀ m, EFr m v v') (c j : Nat) (h1 : 57 ≤ c) : v' c j = v c j := (h (j + 1)).1 c j (by omega) (Or.inr (Or.inr (Nat.lt_succ_self j)))
theorem upc_ne {v : Mem} {lc li c j : Nat} {a : Int} (h : ¬ (c = lc ∧ j = li)) : up v lc li a c j = v c j := by
  by_cases h1 : c = lc
  · subst h1
    rw [up_nk (fun h2 => h ⟨rfl, h2⟩)]
  · rw [up_ne h1]
theorem RN_le {v : Mem} {u : Nat → Int} {n : Nat} : ∀ (N : Nat) (e : Jvm.Term), SizeOf.sizeOf e < N → ∀ (lo hi : Nat) (x : Int), RN v u n e lo hi x → lo ≤ hi := by
  intro N
  induction N with
  | zero => intro e he; exact absurd he (Nat.not_lt_zero _)
  | succ N ih =>
    intro e he lo hi x q
    unfold RN at q
    split at q
    · exact q.1
    · obtain ⟨k, m, h1, h2, h3, h4, -⟩ := q; omega
    · obtain ⟨k, h1, h2, h3, -⟩ := q; omega
    · exact ih _ (by simp at he; omega) _ _ _ q
    · obtain ⟨k, y, h1, h2, h3, h4, -⟩ := q; omega
    · obtain ⟨k, y, z, m, h1, h2, h3, h4, h5, h6, -⟩ := q; omega
    · obtain ⟨k, y, z, m, h1, h2, h3, h4, h5, h6, -⟩ := q; omega
    · obtain ⟨k, y, z, w, m, m', h1, h2, h3, h4, h5, h6, h7, h8, -⟩ := q; omega
    · obtain ⟨k, y, h1, h2, h3, h4, -⟩ := q; omega
    · obtain ⟨k, y, z, m, h1, h2, h3, h4, h5, h6, -⟩ := q; omega
    · obtain ⟨k, h1, h2, h3, -⟩ := q; omega
    · exact q.elim
theorem H17_step {t : Int} {u : Nat → Int} {n f : Nat} (hE : HE t u n f) (h17 : H17 t u n f) : H17 t u n (f + 1) := by
  intro x i sg nb r hp d v Q lo nd k lc li L4 full hd hnb hg hnd hk1 hk2 hlo hlk hli hcont hq
  have hd20 : 20 ≤ d := by unfold dN at hd; omega
  rw [PE_17] at hp
  have hi := hg.lt
  have main : ∀ (v1 : Mem) (nd1 X i1 s1 : Nat) (e : Jvm.Term), EG v1 u n i1 s1 (nb + 1) nd1 → EFr nd v v1 → RN v1 u n e nd nd1 X → isE e → (v1 61 X = fstT u n e ∧ v1 62 X = -1) → nd ≤ X ∧ X < nd1 → nd ≤ nd1 → nd1 + i ≤ nd + i1 → sg ≤ s1 →
      (if kd u n i1 = 44 then bnd (PE (kd u n) f 17 x (i1 + 1) s1 (nb + 1)) (fun r i2 s2 => okP (.sub e r) i2 s2) else okP (.sub e .null) i1 s1) = some r →
      RR t d 193 [(2, 38), (2, (-14))] (up v1 lc li X) (fun x4 v4 => (x4 = 0 → RR t d 199 [(2, 38), (2, (-10))] v4 (fun x6 v6 => (x6 = 0 → Q (-1) v6) ∧ (¬ x6 = 0 → Q k v6))) ∧ (¬ x4 = 0 → RR t d 189 [(2, 38)] v4 (fun _ v8 => LL t (d + 1) 205 72 [(2, 38), (3, 0), (3, 0), (0, (k : Int)), (0, (X : Int)), (3, 0)] [] v8 Q))) := by
    intro v1 nd1 X i1 s1 e a1 a2 a3 a4 a5 a6 a7 a8 a9 hr
    have hlc : lc = 60 ∨ lc = 62 := by omega
    have ew : ∀ c j, ¬ (c = lc ∧ j = li) → up v1 lc li X c j = v1 c j := fun c j h => upc_ne h
    have ewk : up v1 lc li X lc li = X := up_k
    have g1 : EG (up v1 lc li X) u n i1 s1 (nb + 1) nd1 := by
      refine ⟨a1.1.same ?_ (fun j hj => ?_) ?_ ?_ ?_ ?_, a1.2⟩
      · exact up_ne (by omega)
      · rw [ew 38 j (by omega)]
      · rw [ew 38 39 (by omega)]; exact a1.1.2.2.1
      · rw [ew 38 38 (by omega)]; exact a1.1.2.2.2.1
      · rw [ew 38 31 (by omega)]; exact a1.1.2.2.2.2.1
      · rw [ew 38 5 (by omega)]; exact a1.1.2.2.2.2.2
    have fw : EFr lo v (up v1 lc li X) := (a2.less (by omega)).trans (EFr.upc (by omega) hlo) (Nat.le_refl _)
    have agw : ∀ c j, 57 ≤ c → c ≤ 62 → j < nd → ¬ (c = lc ∧ j = li) → up v1 lc li X c j = v c j := fun c j h1 h2 h3 h4 => by
      rw [ew c j h4]
      exact a2.1 c j (by omega) (Or.inr (Or.inr h3))
    refine RR.deep (d := 0 + 5) (is_12 g1.1.2.1 ?_) (by omega)
    rw [g1.1.ck]
    by_cases hc : kd u n i1 = 44
    · rw [decide_eq_true hc]
      rw [if_pos hc] at hr
      have hc0 : kd u n i1 ≠ 0 ∧ kd u n i1 ≠ 1 := by omega
      refine ⟨fun c => absurd c (by decide), fun _ => RR.deep (d := 0 + 8) (nx_es g1.1 hc0.2 (fun v8 b1 b2 => ?_)) (by omega)⟩
      have hg8 := g1.next hc0.1 hc0.2 b1 (by omega) a1.2.2.2
      have e8 : ∀ c j, 57 ≤ c → v8 c j = up v1 lc li X c j := fun c j h => by rw [b2.1 c (by omega)]
      have f8 : EFr lo v v8 := fw.trans (EFr.s38 b2) (Nat.le_refl _)
      have go : LL t (d + 1) 205 87 [(2, 38), (3, 0), (3, 0), (0, (k : Int)), (0, (X : Int)), (3, 0)] [] v8 Q := by
        have hcont' : ∀ (v' : Mem) (hi : Nat) (y : Int) (rest : Jvm.Term), (∀ c j, 57 ≤ c → c ≤ 62 → j < nd1 → ¬ (c = 62 ∧ j = X) → v' c j = v8 c j) → v' 62 X = y → RN v' u n rest nd1 hi y → RN v' u n (full (.sub e rest)) (k + 1) hi (v' 60 k) := by
          intro v' hi y rest c1 c2 c3
          have hle : nd1 ≤ hi := RN_le _ rest (Nat.lt_succ_self _) _ _ _ c3
          refine hcont v' hi X (.sub e rest) (fun c j h1 h2 h3 h4 => ?_) ?_ ?_
          · rw [c1 c j h1 h2 (by omega) (by omega), e8 c j h1]
            exact agw c j h1 h2 h3 h4
          · rw [c1 lc li (by omega) (by omega) (by omega) (by omega), e8 lc li (by omega)]
            exact ewk
          · unfold RN
            refine ⟨X, nd1, rfl, a6.1, a6.2, hle, ?_, ?_, ?_⟩
            · refine RN_top _ e (Nat.lt_succ_self _) nd nd1 X (fun c j h1 h2 h3 h4 h5 => ?_) a4 a3
              rw [c1 c j h1 h2 h4 (by omega), e8 c j h1, ew c j (by omega)]
            · rw [c1 61 X (by omega) (by omega) a6.2 (by omega), e8 61 X (by omega), ew 61 X (by omega)]
              exact a5.1
            · rw [c2]
              exact c3
        rcases bnd_some hr with ⟨j, h1, rfl⟩ | ⟨rr, i2, s2, h1, h2⟩
        · refine h17 x (i1 + 1) s1 nb _ h1 d v8 Q lo nd1 k 62 X X (fun rest => full (.sub e rest)) (by unfold dN at *; omega) hnb hg8 (by omega) hk1 (by omega) (by omega) (Or.inr ⟨rfl, rfl⟩) a6.2 hcont' ?_
          intro v' c1 c2
          exact hq v' c1 (f8.trans c2 (Nat.le_refl _))
        · have h2 : okP (.sub e rr) i2 s2 = some r := h2
          cases h2
          refine h17 x (i1 + 1) s1 nb _ h1 d v8 Q lo nd1 k 62 X X (fun rest => full (.sub e rest)) (by unfold dN at *; omega) hnb hg8 (by omega) hk1 (by omega) (by omega) (Or.inr ⟨rfl, rfl⟩) a6.2 hcont' ?_
          dsimp only at hq ⊢
          by_cases hk : kd u n i2 = 41
          · rw [if_pos hk] at hq ⊢
            intro v' nd' c1 c2 c3 c4 c5 c6 c7
            refine hq v' nd' c1 (f8.trans c2 (Nat.le_refl _)) (fun c j h1 h2 h3 h4 => ?_) c4 (by omega) (by omega) (by omega)
            rw [c3 c j h1 h2 (by omega) (by omega), e8 c j h1]
            exact agw c j h1 h2 h3 h4
          · rw [if_neg hk] at hq ⊢
            intro v' c1 c2
            exact hq v' c1 (f8.trans c2 (Nat.le_refl _))
      refine s_205_72 (RR.deep (d := 0 + 5) (is_8 hg8.1.2.1 ?_) (by omega))
      exact ⟨fun _ => go, fun _ => ⟨fun c => absurd c int_nn, fun _ => go⟩⟩
    · rw [decide_eq_false hc]
      rw [if_neg hc] at hr
      have hr : okP (.sub e .null) i1 s1 = some r := hr
      cases hr
      dsimp only at hq
      refine ⟨fun _ => RR.deep (d := 0 + 10) (shuts_8 g1.1 (by omega) (fun hk v6 b1 b2 => ?_) (fun hk v6 b1 b2 => ?_)) (by omega), fun c => absurd rfl c⟩
      · rw [if_pos hk] at hq
        have hk0 : kd u n i1 ≠ 0 ∧ kd u n i1 ≠ 1 := by omega
        have hg6 := g1.next hk0.1 hk0.2 b1 (by omega) a1.2.2.2
        have e6 : ∀ c j, 57 ≤ c → v6 c j = up v1 lc li X c j := fun c j h => EFr.all b2 c j h
        have ag6 : ∀ c j, 57 ≤ c → c ≤ 62 → j < nd → ¬ (c = lc ∧ j = li) → v6 c j = v c j := fun c j h1 h2 h3 h4 => by
          rw [e6 c j h1]
          exact agw c j h1 h2 h3 h4
        refine ⟨fun c => absurd c (by decide), fun _ => hq v6 nd1 hg6 (fw.trans (b2 lo) (Nat.le_refl _)) ag6 ?_ a7 a8 a9⟩
        refine hcont v6 nd1 X (.sub e .null) ag6 (by rw [e6 lc li (by omega)]; exact ewk) ?_
        unfold RN
        refine ⟨X, nd1, rfl, a6.1, a6.2, Nat.le_refl _, ?_, ?_, ?_⟩
        · exact RN_same _ e (Nat.lt_succ_self _) nd nd1 X (fun c j h1 h2 h3 h4 => by rw [e6 c j h1, ew c j (by omega)]) a3
        · rw [e6 61 X (by omega), ew 61 X (by omega)]; exact a5.1
        · unfold RN
          refine ⟨Nat.le_refl _, ?_⟩
          rw [e6 62 X (by omega), ew 62 X (by omega)]
          exact a5.2
      · rw [if_neg hk] at hq
        exact ⟨fun _ => hq v6 b1 (fw.trans (b2 lo) (Nat.le_refl _)), fun c => absurd rfl c⟩
  refine s_205_87 ?_
  rcases bnd_some hp with ⟨j, h1, rfl⟩ | ⟨e, i1, s1, h1, h2⟩
  · refine hE 0 x i sg (nb + 1) _ (by omega) h1 d v _ nd (by unfold dN at *; omega) hg hnd ?_
    intro v' a1 a2
    exact ⟨fun _ => hq v' a1 (a2.less (by omega)), fun c => absurd (by decide) c⟩
  · refine hE 0 x i sg (nb + 1) _ (by omega) h1 d v _ nd (by unfold dN at *; omega) hg hnd ?_
    intro v1 nd1 X a1 a2 a3 a4 a5 a6 a7 a8 a9
    dsimp only at a1 a3 a4 a5 a8 a9
    have hm := main v1 nd1 X i1 s1 e a1 a2 a3 a4 a5 a6 a7 a8 a9 h2
    refine ⟨fun c => absurd c int_nn, fun _ => ⟨fun hL => ?_, fun hL => ?_⟩⟩
    · rcases hlk with ⟨rfl, rfl, -⟩ | ⟨-, h9⟩
      · rw [Int.toNat_natCast]
        exact ⟨⟨by omega, by omega⟩, hm⟩
      · omega
    · rcases hlk with ⟨-, -, h9⟩ | ⟨rfl, rfl⟩
      · exact absurd h9 hL
      · rw [Int.toNat_natCast]
        exact ⟨⟨by omega, by omega⟩, hm⟩
