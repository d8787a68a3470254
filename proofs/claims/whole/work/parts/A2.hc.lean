/-! The class's heap: blocks, and how often each is referred to. -/
def HC (v : Mem) (z : Nat) (H : Hp) (k mo : Nat) (rc : Nat → Nat) : Prop := (z ≤ 4000 ∧ hok z 0 H ∧ CHN v 4000 H) ∧ (v 15 6 = (z : Int) ∧ v 15 7 = (k : Int) ∧ v 15 8 = ((hsum H : Nat) : Int) ∧ v 15 9 = (mo : Int) ∧ v 15 10 = 0 ∧ (v 15 12 = 0 ∨ v 15 12 = 1)) ∧ (∀ p, p < 4000 → v 19 p = ((rc p : Nat) : Int)) ∧ (∀ p, p < 4000 → (∀ b ∈ H, b.1 ≠ p) → v 18 p = 0 ∧ rc p = 0)
theorem m34_n {v : Mem} {a : Int} (h : a < 0) : m_34 a v = v := by unfold m_34; rw [if_pos h]
theorem m34_p {v : Mem} {p r : Nat} (hp : p < 4000) (h : v 19 p = ((r : Nat) : Int)) (hr : r < 4900) : m_34 (p : Int) v = up v 19 p ((r + 1 : Nat) : Int) := by
  unfold m_34
  rw [if_neg (by omega), if_pos (by omega), Int.toNat_natCast, h, wNat (k := r + 1) (a := (r : Int) + 1) (by omega) (by omega)]
theorem HC.hold {v : Mem} {z : Nat} {H : Hp} {k mo : Nat} {rc : Nat → Nat} {b : Nat × Nat × Nat} (h : HC v z H k mo rc) (hb : b ∈ H) (hr : rc b.1 < 4900) : HC (m_34 (b.1 : Int) v) z H k mo (fun x => if x = b.1 then rc b.1 + 1 else rc x) ∧ ∀ c, c ≠ 19 → m_34 (b.1 : Int) v c = v c := by
  obtain ⟨⟨h1, h2, h3⟩, h4, h5, h6⟩ := h
  have hp := hok_in H 0 h2 hb
  have hlt : b.1 < 4000 := by omega
  rw [m34_p hlt (h5 b.1 hlt) hr]
  refine ⟨⟨⟨h1, h2, CHN_same (fun c hc => up_ne (by omega)) H 4000 h3⟩, ?_, fun p hp => ?_, fun p hp hn => ?_⟩, fun c hc => up_ne hc⟩
  · rw [up_ne (by decide)]; exact h4
  · dsimp only
    by_cases e : p = b.1
    · subst e; rw [up_k, if_pos rfl]
    · rw [up_nk e, if_neg e]; exact h5 p hp
  · dsimp only
    rw [if_neg (fun e => hn b hb e.symm), up_ne (by decide)]
    exact h6 p hp hn
theorem HC.drop2 {v : Mem} {z : Nat} {H : Hp} {k mo : Nat} {rc : Nat → Nat} {b : Nat × Nat × Nat} (h : HC v z H k mo rc) (hb : b ∈ H) (hr : rc b.1 < 4900) (h2r : 2 ≤ rc b.1) : HC (m_35 (b.1 : Int) v) z H k mo (fun x => if x = b.1 then rc b.1 - 1 else rc x) ∧ ∀ c, c ≠ 15 → c ≠ 19 → m_35 (b.1 : Int) v c = v c := by
  obtain ⟨⟨h1, h2, h3⟩, h4, h5, h6⟩ := h
  have hp := hok_in H 0 h2 hb
  have hlt : b.1 < 4000 := by omega
  have e19 := h5 b.1 hlt
  rw [m35_k (r := rc b.1 - 1) hlt (by rw [e19]; congr 1; omega) (by omega) (by omega)]
  unfold dpM
  refine ⟨⟨⟨h1, h2, CHN_same (fun c hc => by rw [up_ne (by omega), up_ne (by omega)]) H 4000 h3⟩, ?_, fun p hp => ?_, fun p hp hn => ?_⟩, fun c c1 c2 => by rw [up_ne c2, up_ne c1]⟩
  · obtain ⟨q1, q2, q3, q4, q5, q6⟩ := h4
    refine ⟨?_, ?_, ?_, ?_, ?_, Or.inr ?_⟩
    · rw [up_ne (by decide), up_nk (by decide)]; exact q1
    · rw [up_ne (by decide), up_nk (by decide)]; exact q2
    · rw [up_ne (by decide), up_nk (by decide)]; exact q3
    · rw [up_ne (by decide), up_nk (by decide)]; exact q4
    · rw [up_ne (by decide), up_nk (by decide)]; exact q5
    · rw [up_ne (by decide), up_k]
  · dsimp only
    by_cases e : p = b.1
    · subst e; rw [up_k, if_pos rfl]
    · rw [up_nk e, if_neg e, up_ne (by decide)]; exact h5 p hp
  · dsimp only
    rw [if_neg (fun e => hn b hb e.symm), up_ne (by decide), up_ne (by decide)]
    exact h6 p hp hn
theorem mem_del {p : Nat} {c : Nat × Nat × Nat} : ∀ (H : Hp), c ∈ H → c.1 ≠ p → c ∈ hdel p H := by
  intro H
  induction H with
  | nil => intro h; cases h
  | cons b r ih =>
    intro h hc
    show c ∈ (if b.1 = p then r else b :: hdel p r)
    rcases List.mem_cons.mp h with e | e
    · rw [if_neg (by rw [← e]; exact hc), e]
      exact List.mem_cons_self
    · split
      · exact e
      · exact List.mem_cons_of_mem _ (ih e hc)
theorem HC.drop1 {v : Mem} {z : Nat} {H : Hp} {k mo : Nat} {rc : Nat → Nat} {b : Nat × Nat × Nat} (h : HC v z H k mo rc) (hb : b ∈ H) (h1r : rc b.1 = 1) : HC (m_35 (b.1 : Int) v) z (hdel b.1 H) k mo (fun x => if x = b.1 then 0 else rc x) ∧ ∀ c, ¬ (15 ≤ c ∧ c ≤ 19) → m_35 (b.1 : Int) v c = v c := by
  obtain ⟨⟨h1, h2, h3⟩, h4, h5, h6⟩ := h
  have hp := hok_in H 0 h2 hb
  have hlt : b.1 < 4000 := by omega
  have e19 := h5 b.1 hlt
  rw [h1r] at e19
  have hsu := hsum_del H 0 h2 hb
  have hsl := hsum_le H 0 h2
  obtain ⟨pr, f, a1, a2, a3, a4, a5, a6, a7⟩ := CHN_del (tk := hsum H) (s := b.2.1) h1 H 4000 0 h2 h3 (Or.inl rfl) hb
  rw [m35_f hlt e19 a5 (by omega) a1 (by omega) a2 (by omega) h4.2.2.1 (by omega) (by omega)]
  have e15 : ∀ x, x ≠ 8 → x ≠ 12 → frM v b.1 pr f (hsum H) b.2.1 15 x = v 15 x := fun x x1 x2 => by
    unfold frM
    rw [up_ne (by decide), up_ne (by decide), up_ne (by decide), up_nk x1, up_ne (by decide), up_nk x2]
  refine ⟨⟨⟨h1, hok_del H 0 h2, a7⟩, ?_, fun p hp => ?_, fun p hp hn => ?_⟩, fun c hc => ?_⟩
  · obtain ⟨q1, q2, q3, q4, q5, q6⟩ := h4
    refine ⟨?_, ?_, ?_, ?_, ?_, Or.inr ?_⟩
    · rw [e15 6 (by decide) (by decide)]; exact q1
    · rw [e15 7 (by decide) (by decide)]; exact q2
    · unfold frM
      rw [up_ne (by decide), up_ne (by decide), up_ne (by decide), up_k]
      congr 1
      omega
    · rw [e15 9 (by decide) (by decide)]; exact q4
    · rw [e15 10 (by decide) (by decide)]; exact q5
    · unfold frM
      rw [up_ne (by decide), up_ne (by decide), up_ne (by decide), up_nk (by decide), up_ne (by decide), up_k]
  · dsimp only
    unfold frM
    rw [up_ne (by decide), up_ne (by decide), up_ne (by decide), up_ne (by decide)]
    by_cases e : p = b.1
    · subst e; rw [up_k, if_pos rfl]; rfl
    · rw [up_nk e, if_neg e, up_ne (by decide)]; exact h5 p hp
  · dsimp only
    by_cases e : p = b.1
    · rw [if_pos e]
      refine ⟨?_, rfl⟩
      unfold frM
      rw [e, up_ne (by decide), up_ne (by decide), up_k]
    · rw [if_neg e, fr_18 e]
      exact h6 p hp (fun c hc hcp => hn c (mem_del H hc (fun x => e (hcp.symm.trans x))) hcp)
  · unfold frM
    rw [up_ne (by omega), up_ne (by omega), up_ne (by omega), up_ne (by omega), up_ne (by omega), up_ne (by omega)]
theorem fit_free {z need a : Nat} (h0 : 1 ≤ need) : ∀ (H : Hp) (lo : Nat), hok z lo H → fit z need lo H = some a → lo ≤ a ∧ ∀ b ∈ H, b.1 + b.2.1 ≤ a ∨ a + need ≤ b.1 := by
  intro H
  induction H with
  | nil =>
    intro lo h hf
    have hf : (if lo + need ≤ z then some lo else none) = some a := hf
    split at hf
    · cases hf
      exact ⟨Nat.le_refl _, fun b hb => by cases hb⟩
    · cases hf
  | cons c r ih =>
    intro lo h hf
    have hf : (if lo + need ≤ c.1 then some lo else fit z need (c.1 + c.2.1) r) = some a := hf
    have hc1 := h.1
    split at hf
    · rename_i hc
      cases hf
      refine ⟨Nat.le_refl _, fun b hb => ?_⟩
      rcases List.mem_cons.mp hb with e | e
      · rw [e]; exact Or.inr hc
      · have := hok_in r _ h.2.2 e
        omega
    · obtain ⟨i1, i2⟩ := ih _ h.2.2 hf
      refine ⟨by omega, fun b hb => ?_⟩
      rcases List.mem_cons.mp hb with e | e
      · rw [e]; omega
      · exact i2 b e
theorem mem_hin {z need a k : Nat} : ∀ (H : Hp) (lo : Nat), fit z need lo H = some a → (a, need, k) ∈ hin need k lo H ∧ ∀ b ∈ H, b ∈ hin need k lo H := by
  intro H
  induction H with
  | nil =>
    intro lo hf
    have hf : (if lo + need ≤ z then some lo else none) = some a := hf
    split at hf
    · cases hf
      exact ⟨List.mem_cons_self, fun b hb => by cases hb⟩
    · cases hf
  | cons c r ih =>
    intro lo hf
    have hf : (if lo + need ≤ c.1 then some lo else fit z need (c.1 + c.2.1) r) = some a := hf
    show (a, need, k) ∈ (if lo + need ≤ c.1 then (lo, need, k) :: c :: r else c :: hin need k (c.1 + c.2.1) r) ∧ ∀ b ∈ c :: r, b ∈ (if lo + need ≤ c.1 then (lo, need, k) :: c :: r else c :: hin need k (c.1 + c.2.1) r)
    split at hf
    · rename_i hc
      cases hf
      rw [if_pos hc]
      exact ⟨List.mem_cons_self, fun b hb => List.mem_cons_of_mem _ hb⟩
    · rename_i hc
      rw [if_neg hc]
      obtain ⟨i1, i2⟩ := ih _ hf
      refine ⟨List.mem_cons_of_mem _ i1, fun b hb => ?_⟩
      rcases List.mem_cons.mp hb with e | e
      · rw [e]; exact List.mem_cons_self
      · exact List.mem_cons_of_mem _ (i2 b e)
theorem HC.make {t : Int} {d : Nat} {v : Mem} {Q : Int → Mem → Prop} {z n k mo : Nat} {H : Hp} {rc : Nat → Nat} (h : HC v z H k mo rc) (hk : k < 2000000000) (hn1 : 1 ≤ n) (hn : n < 8000) (hq0 : fit z (n + 1) 0 H = none → Q (-1) v)
    (hq1 : ∀ a : Nat, fit z (n + 1) 0 H = some a → a + (n + 1) ≤ z → (∀ b ∈ H, b.1 ≠ a) → ∀ v', HC v' z (hin (n + 1) k 0 H) (k + 1) (max mo (hsum H + (n + 1))) rc → (∀ c, ¬ (15 ≤ c ∧ c ≤ 20) → v' c = v c) → Q (a : Int) v') : RR t (d + 2) 33 [(2, 15), (0, (n : Int))] v Q := by
  obtain ⟨⟨h1, h2, h3⟩, ⟨q1, q2, q3, q4, q5, q6⟩, h5, h6⟩ := h
  have hsl := hsum_le H 0 h2
  refine make_rr h1 q1 q2 q3 q4 hk (by omega) hn1 hn h2 h3 hq0 (fun a pr f e1 e2 e3 e4 e5 e6 e7 => ?_)
  obtain ⟨i1, i2⟩ := fit_free (by omega) H 0 h2 e1
  have hfree : ∀ b ∈ H, b.1 ≠ a := fun b hb => by
    have := i2 b hb
    have := hok_in H 0 h2 hb
    omega
  have hin2 := mem_hin (k := k) H 0 e1
  have ec : ∀ c, ¬ (15 ≤ c ∧ c ≤ 20) → mkM v a pr f (n + 1) k (hsum H) (mo : Int) c = v c := fun c hc => by
    unfold mkM lnkM
    rw [up_ne (by omega), up_ne (by omega), up_ne (by omega), up_ne (by omega), up_ne (by omega), up_ne (by omega), up_ne (by omega), up_ne (by omega), up_ne (by omega), up_ne (by omega), up_ne (by omega)]
  refine hq1 a e1 e2 hfree _ ⟨⟨h1, hok_hin (by omega) H 0 h2 e1, e7⟩, ⟨?_, ?_, ?_, ?_, ?_, Or.inr ?_⟩, fun p hp => ?_, fun p hp hnp => ?_⟩ ec
  · unfold mkM lnkM
    rw [up_nk (by decide), up_nk (by decide), up_nk (by decide), up_nk (by decide), up_ne (by decide), up_ne (by decide), up_ne (by decide), up_ne (by decide), up_ne (by decide), up_ne (by decide), up_ne (by decide)]
    exact q1
  · unfold mkM lnkM
    rw [up_nk (by decide), up_nk (by decide), up_nk (by decide), up_k]
  · unfold mkM lnkM
    rw [up_nk (by decide), up_nk (by decide), up_k, hsum_hin]
  · unfold mkM lnkM
    rw [up_nk (by decide), up_k]
    split <;> omega
  · unfold mkM lnkM
    rw [up_nk (by decide), up_nk (by decide), up_nk (by decide), up_nk (by decide), up_ne (by decide), up_ne (by decide), up_ne (by decide), up_ne (by decide), up_ne (by decide), up_ne (by decide), up_ne (by decide)]
    exact q5
  · unfold mkM lnkM
    rw [up_k]
  · unfold mkM lnkM
    rw [up_ne (by decide), up_ne (by decide), up_ne (by decide), up_ne (by decide), up_ne (by decide)]
    by_cases e : p = a
    · subst e
      rw [up_k, (h6 p hp hfree).2]
      rfl
    · rw [up_nk e, up_ne (by decide), up_ne (by decide), up_ne (by decide), up_ne (by decide), up_ne (by decide)]
      exact h5 p hp
  · have pa : p ≠ a := fun e => hnp _ hin2.1 e.symm
    rw [mk_18 pa]
    exact h6 p hp (fun b hb => hnp b (hin2.2 b hb))
