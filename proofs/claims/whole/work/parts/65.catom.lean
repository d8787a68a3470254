/-! The class's walk over an E: ATOM. -/
theorem num_nn {u : Nat → Int} {n : Nat} : ∀ (f k : Nat) (acc : Int), k + f = n → 0 ≤ acc → 0 ≤ numA u acc k (en isDg u n k - k) := by
  intro f
  induction f with
  | zero =>
    intro k acc hk ha
    rw [en_end (by omega), Nat.sub_self]
    exact ha
  | succ f ih =>
    intro k acc hk ha
    cases hd : isDg (u k) with
    | false =>
      rw [en_stop hd, Nat.sub_self]
      exact ha
    | true =>
      rw [en_go hd (by omega)]
      have h1 := (en_b (p := isDg) (u := u) (n := n) (k := k + 1) (by omega)).1
      obtain ⟨m, hm⟩ : ∃ m, en isDg u n (k + 1) = k + 1 + m := ⟨_, (Nat.add_sub_cancel' h1).symm⟩
      have h2 := ih (k + 1) (acc * 10 + (u k - 48)) (by omega) (by
        unfold isDg at hd
        have := of_decide_eq_true hd
        omega)
      rw [hm] at h2 ⊢
      have e1 : k + 1 + m - (k + 1) = m := by omega
      have e2 : k + 1 + m - k = m + 1 := by omega
      rw [e1] at h2
      rw [e2]
      exact h2
theorem word_34 {u : Nat → Int} {n i : Nat} (hi : i ≤ n) : ((wordAt u n i).1 = 3 → 0 ≤ (wordAt u n i).2.2 ∧ (wordAt u n i).2.2 ≤ 2147483647) ∧ ((wordAt u n i).1 = 4 → 0 ≤ (wordAt u n i).2.2 ∧ (wordAt u n i).2.2 ≤ 100) := by
  unfold wordAt
  by_cases c0 : u i < 0
  · rw [if_pos c0]
    exact ⟨fun h => by dsimp only at h; omega, fun h => by dsimp only at h; omega⟩
  rw [if_neg c0]
  by_cases c1 : isLt (u i) = true
  · rw [if_pos c1]
    by_cases c2 : en isNm u n i - i ≤ 12
    · rw [if_pos c2]
      dsimp only
      rcases kwK_or (segU u i (en isNm u n i - i)) with h | h
      · exact ⟨fun e => by omega, fun e => by omega⟩
      · exact ⟨fun e => by omega, fun e => by omega⟩
    · rw [if_neg c2]
      exact ⟨fun h => by dsimp only at h; omega, fun h => by dsimp only at h; omega⟩
  rw [if_neg c1]
  by_cases c3 : isDg (u i) = true
  · rw [if_pos c3]
    by_cases c4 : numA u 0 i (en isDg u n i - i) ≤ 2147483647
    · rw [if_pos c4]
      exact ⟨fun _ => ⟨num_nn (n - i) i 0 (by omega) (by decide), c4⟩, fun h => by dsimp only at h; omega⟩
    · rw [if_neg c4]
      exact ⟨fun h => by dsimp only at h; omega, fun h => by dsimp only at h; omega⟩
  rw [if_neg c3]
  by_cases c5 : u i = 34
  · rw [if_pos c5]
    by_cases c6 : u (en isQt u n (i + 1)) = 34 ∧ en isQt u n (i + 1) - i - 1 ≤ 100
    · rw [if_pos c6]
      refine ⟨fun h => by dsimp only at h; omega, fun _ => ?_⟩
      dsimp only
      omega
    · rw [if_neg c6]
      exact ⟨fun h => by dsimp only at h; omega, fun h => by dsimp only at h; omega⟩
  rw [if_neg c5]
  by_cases c7 : isSg (u i) = true
  · rw [if_pos c7]
    have h33 : 33 ≤ u i := by
      unfold isSg at c7
      simp at c7
      omega
    by_cases c8 : (u i = 61 ∨ u i = 33 ∨ u i = 60) ∧ u (i + 1) = 61
    · rw [if_pos c8]
      dsimp only
      exact ⟨fun e => by omega, fun e => by omega⟩
    · rw [if_neg c8]
      dsimp only
      exact ⟨fun e => by omega, fun e => by omega⟩
  · rw [if_neg c7]
    exact ⟨fun h => by dsimp only at h; omega, fun h => by dsimp only at h; omega⟩
theorem vl_num {u : Nat → Int} {b : Nat → Int} {n i : Nat} (hu : u = uB b n) (hk : kd u n i = 3) : 0 ≤ vl u n i ∧ vl u n i ≤ 2147483647 := by
  subst hu
  exact (word_34 (ps_le i)).1 hk
theorem vl_quo {u : Nat → Int} {b : Nat → Int} {n i : Nat} (hu : u = uB b n) (hk : kd u n i = 4) : 0 ≤ vl u n i ∧ vl u n i ≤ 100 := by
  subst hu
  exact (word_34 (ps_le i)).2 hk
theorem CG.fnd {s : Int} {v : Mem} {u : Nat → Int} {n la i sg nb : Nat} {G : Fn} {L : Sc} (h : CG s v u n la i sg nb G L) {t : Int} {d : Nat} {Q : Int → Mem → Prop} {x : Int} (hq : ∀ y, (s = 1 → y = fno G x) → (y = -1 ∨ 0 ≤ y) → Q y v) : RR t d 24 [(2, 1), (1, x)] v Q := by
  obtain ⟨c, hc, hc2⟩ := h.2.2.2.2.1.1
  refine ffind_rr hc hc2 (hq _ (fun hs => ?_) ?_)
  · obtain ⟨g1, g2, g3⟩ := (h.2.2.2.2.2 hs).1
    have e : c = G.length := by omega
    subst e
    exact fndA_eq _ _ (fun j _ hj => (g3 j (by omega)).1)
  · rcases fndA_r (v 2) x c 0 with e | ⟨j, e, -⟩
    · exact Or.inl e
    · exact Or.inr (by omega)
theorem CG.lfd {s : Int} {v : Mem} {u : Nat → Int} {n la i sg nb : Nat} {G : Fn} {L : Sc} (h : CG s v u n la i sg nb G L) {t : Int} {d : Nat} {Q : Int → Mem → Prop} {x : Int} (hq : ∀ y, (s = 1 → y = slt L x) → (y = -1 ∨ 0 ≤ y) → Q y v) : RR t d 131 [(2, 28), (1, x)] v Q := by
  obtain ⟨c, hc, hc2⟩ := h.2.2.2.2.1.2.1
  refine sfind_rr hc hc2 (hq _ (fun hs => ?_) ?_)
  · obtain ⟨g1, g2, g3⟩ := (h.2.2.2.2.2 hs).2
    have e : c = L.length := by omega
    subst e
    exact fndA_eq _ _ (fun j _ hj => (g3 j (by omega)).1)
  · rcases fndA_r (v 29) x c 0 with e | ⟨j, e, -⟩
    · exact Or.inl e
    · exact Or.inr (by omega)
theorem slt_r (L : Sc) (x : Int) : slt L x = -1 ∨ ∃ j : Nat, slt L x = j ∧ j < L.length ∧ (L.getD j (0, 0)).1 = x := by
  rcases fndA_r (fun k => (L.getD k (0, 0)).1) x L.length 0 with e | ⟨j, e, h1, h2, h3⟩
  · exact Or.inl e
  · exact Or.inr ⟨j, e, by omega, h3⟩
theorem fno_r (G : Fn) (x : Int) : fno G x = -1 ∨ ∃ j : Nat, fno G x = j ∧ j < G.length ∧ (G.getD j (0, [], 0)).1 = x := by
  rcases fndA_r (fun k => (G.getD k (0, [], 0)).1) x G.length 0 with e | ⟨j, e, h1, h2, h3⟩
  · exact Or.inl e
  · exact Or.inr ⟨j, e, by omega, h3⟩
/-- the type of a row of the scope -/
theorem SCP.ty {v : Mem} {L : Sc} (h : SCP v L) (x : Int) : f_132 (slt L x) v = slT L x := by
  unfold f_132 slT
  rcases slt_r L x with e | ⟨j, e, h1, -⟩
  · rw [e]; rfl
  · have h2 := h.2.1
    rw [e, if_neg (by omega), h.1, if_pos (by omega), if_pos (by omega), if_neg (by omega), Int.toNat_natCast]
    exact (h.2.2 j h1).2
theorem FNS.ty {v : Mem} {G : Fn} (h : FNS v G) (x : Int) : f_27 (fno G x) v = fnT G x := by
  unfold f_27 fnT
  rcases fno_r G x with e | ⟨j, e, h1, -⟩
  · rw [e]; rfl
  · have h2 := h.2.1
    rw [e, if_neg (by omega), h.1, if_pos (by omega), if_pos (by omega), if_neg (by omega), Int.toNat_natCast]
    exact (h.2.2 j h1).2.2.2.1
/-- how many PARAMETERS -/
theorem FNS.ct {v : Mem} {G : Fn} (h : FNS v G) (x : Int) : (fno G x = -1 ∧ f_25 (fno G x) v = -1 ∧ fnP G x = []) ∨ (¬ fno G x = -1 ∧ f_25 (fno G x) v = ((fnP G x).length : Nat) ∧ (fnP G x).length ≤ 6 ∧ ∃ j : Nat, fno G x = j ∧ j < G.length ∧ fnP G x = (G.getD j (0, [], 0)).2.1) := by
  unfold f_25 fnP
  rcases fno_r G x with e | ⟨j, e, h1, -⟩
  · rw [e]; exact Or.inl ⟨rfl, rfl, rfl⟩
  · have h2 := h.2.1
    have h3 := h.2.2 j h1
    rw [e, if_neg (by omega), h.1, if_pos (by omega), if_pos (by omega), if_neg (by omega), Int.toNat_natCast]
    exact Or.inr ⟨by omega, h3.2.1, h3.2.2.1, j, rfl, h1, rfl⟩
theorem six {a b : Nat} (ha : a < 20) (hb : b < 6) : w32 (w32 ((a : Int) * 6) + (b : Int)) = ((a * 6 + b : Nat) : Int) := by
  rw [w32_id (a := (a : Int) * 6) (by omega) (by omega)]
  exact wNat (by omega) (by omega)
/-- the type of a PARAMETER -/
theorem p26 {t : Int} {d : Nat} {v : Mem} {Q : Int → Mem → Prop} {a1 a2 : Int} (hq : ∀ y, (∀ a b : Nat, a1 = a → a2 = b → (a : Int) < v 1 6 → a < 20 → b < 6 → y = v 4 (a * 6 + b)) → Q y v) : RR t (d + 1) 26 [(2, 1), (0, a1), (0, a2)] v Q := by
  refine s_26 ⟨fun c => hq _ (fun a b e _ => by omega), fun c1 => ⟨fun c2 => ⟨fun c3 => ⟨fun c => hq _ (fun a b _ e => by omega), fun c4 => ⟨fun c5 => ?_, fun c => hq _ (fun a b e1 e2 _ _ h6 => by omega)⟩⟩, fun c => hq _ (fun a b e1 e2 _ h6 => by omega)⟩, fun c => hq _ (fun a b e1 e2 h6 => by omega)⟩⟩
  obtain ⟨a, rfl⟩ : ∃ a : Nat, a1 = a := ⟨a1.toNat, by omega⟩
  obtain ⟨b, rfl⟩ : ∃ b : Nat, a2 = b := ⟨a2.toNat, by omega⟩
  rw [six (by omega) (by omega), Int.toNat_natCast]
  refine ⟨⟨by omega, by omega⟩, hq _ (fun a' b' e1 e2 _ _ _ => ?_)⟩
  have e1 : a = a' := by omega
  have e2 : b = b' := by omega
  rw [e1, e2]
theorem local_k {s t : Int} {u : Nat → Int} {n la : Nat} {G : Fn} {L : Sc} {i sg nb d : Nat} {v : Mem} {Q : Int → Mem → Prop} (hg : CG s v u n la i sg nb G L) (hr : s = 1 → v 8 3 ≤ (ps u n i : Int)) (hk : kd u n i = 2) (hq : PoC s Q v u n la nb sg i G L (.ok (.arg i, i + 1, sg))) : RR t (d + 1) 111 [(2, 22)] v Q := by
  have hi := hg.1.lt (by omega)
  have hv := hg.1.value hi
  have g0 := GO.start hg hr
  refine s_111 (d := d) ?_
  rw [hv]
  refine hg.lfd (fun y hy hy2 => ⟨fun c => ?_, fun c => ?_⟩)
  · rw [hg.place]
    have g1 := (g0.fnm (ps u n i)).act0 9 y 0 (by omega) (by omega) (by omega)
    refine hq _ _ (g1.eq (fun hs => ?_) (fun hs => ?_) (fun hs => rfl)) (fun hs => ?_) rfl (Nat.le_refl _)
    · show _ = [if kd u n i = 3 then _ else if kd u n i = 4 then _ else _]
      rw [if_neg (by omega), if_neg (by omega), hy hs]; rfl
    · show _ = (if kd u n i = 2 ∧ slt L (vl u n i) = -1 then _ else _)
      rw [if_pos ⟨hk, by rw [← hy hs]; exact c⟩]; rfl
    · show _ = (if kd u n i = 3 then _ else if kd u n i = 4 then _ else _)
      have ty := (g1.1.2.2.2.2.2 hs).2.ty (vl u n i)
      rw [← hy hs] at ty
      rw [if_neg (by omega), if_neg (by omega)]
      exact ty
  · have g1 := g0.act0 9 y 0 (by omega) (by omega) (by omega)
    refine hq _ _ (g1.eq (fun hs => ?_) (fun hs => ?_) (fun hs => rfl)) (fun hs => ?_) rfl (Nat.le_refl _)
    · show _ = [if kd u n i = 3 then _ else if kd u n i = 4 then _ else _]
      rw [if_neg (by omega), if_neg (by omega), hy hs]; rfl
    · show _ = (if kd u n i = 2 ∧ slt L (vl u n i) = -1 then _ else _)
      rw [if_neg (fun e => c (by rw [hy hs]; exact e.2))]
    · show _ = (if kd u n i = 3 then _ else if kd u n i = 4 then _ else _)
      have ty := (g1.1.2.2.2.2.2 hs).2.ty (vl u n i)
      rw [← hy hs] at ty
      rw [if_neg (by omega), if_neg (by omega)]
      exact ty
