/-! The class's values: rows in one stack, and the blocks that they refer to. -/
abbrev Rw : Type := Int × Int × Int
def VR (v : Mem) (S : List Rw) : Prop := v 32 4 = ((S.length : Nat) : Int) ∧ S.length ≤ 1440 ∧ ∀ i, i < S.length → v 33 i = (S.getD i (-1, 0, 0)).1 ∧ v 34 i = (S.getD i (-1, 0, 0)).2.1 ∧ v 35 i = (S.getD i (-1, 0, 0)).2.2
/-- how many rows refer to the block at p -/
def cnt (p : Nat) : List Rw → Nat
  | [] => 0
  | r :: S => (if r.1 = (p : Int) then 1 else 0) + cnt p S
theorem cnt_app {p : Nat} : ∀ (S T : List Rw), cnt p (S ++ T) = cnt p S + cnt p T := by
  intro S
  induction S with
  | nil => intro T; show cnt p T = 0 + cnt p T; omega
  | cons r S ih => intro T; show _ + cnt p (S ++ T) = _ + cnt p S + cnt p T; rw [ih]; omega
theorem cnt_one {p : Nat} {S : List Rw} {r : Rw} : cnt p (S ++ [r]) = cnt p S + (if r.1 = (p : Int) then 1 else 0) := by
  rw [cnt_app]
  rfl
theorem cnt_le {p : Nat} : ∀ (S : List Rw), cnt p S ≤ S.length := by
  intro S
  induction S with
  | nil => exact Nat.le_refl _
  | cons r S ih =>
    show (if r.1 = (p : Int) then 1 else 0) + cnt p S ≤ S.length + 1
    split <;> omega
theorem cnt_in {p : Nat} {r : Rw} : ∀ (S : List Rw), r ∈ S → r.1 = (p : Int) → 1 ≤ cnt p S := by
  intro S
  induction S with
  | nil => intro h; cases h
  | cons q S ih =>
    intro h e
    show 1 ≤ (if q.1 = (p : Int) then 1 else 0) + cnt p S
    rcases List.mem_cons.mp h with h | h
    · rw [← h, if_pos e]; omega
    · have := ih h e; omega
theorem HC.rc {v : Mem} {z : Nat} {H : Hp} {k mo : Nat} {rc rc' : Nat → Nat} (h : HC v z H k mo rc) (e : ∀ p, rc' p = rc p) : HC v z H k mo rc' := by
  have : rc' = rc := funext e
  rw [this]; exact h
/-- the blocks that are referred to -/
def gc (S : List Rw) (ex : Nat → Nat) (H : Hp) : Hp := H.filter (fun b => decide (0 < cnt b.1 S + ex b.1))
/-- values and heap: ex: held besides -/
def VH (v : Mem) (z : Nat) (H : Hp) (k mo : Nat) (S : List Rw) (ex : Nat → Nat) : Prop := VR v S ∧ HC v z H k mo (fun p => cnt p S + ex p) ∧ (∀ r ∈ S, r.1 = -1 ∨ ∃ b ∈ H, r.1 = ((b.1 : Nat) : Int)) ∧ (∀ p, ex p ≤ 10)
theorem VR.same {v v' : Mem} {S : List Rw} (h : VR v S) (h32 : v' 32 4 = v 32 4) (hc : ∀ c, (33 ≤ c ∧ c ≤ 35) → v' c = v c) : VR v' S := by
  unfold VR at *
  rw [h32, hc 33 (by omega), hc 34 (by omega), hc 35 (by omega)]
  exact h
theorem VR.push {v v' : Mem} {S : List Rw} {r : Rw} (h : VR v S) (hl : S.length < 1440) (e32 : v' 32 4 = ((S.length + 1 : Nat) : Int)) (e : ∀ i, v' 33 i = (if i = S.length then r.1 else v 33 i) ∧ v' 34 i = (if i = S.length then r.2.1 else v 34 i) ∧ v' 35 i = (if i = S.length then r.2.2 else v 35 i)) : VR v' (S ++ [r]) := by
  have ll : (S ++ [r]).length = S.length + 1 := by rw [List.length_append]; rfl
  refine ⟨by rw [ll]; exact e32, by rw [ll]; omega, fun i hi => ?_⟩
  rw [ll] at hi
  obtain ⟨e1, e2, e3⟩ := e i
  rw [e1, e2, e3]
  by_cases c : i = S.length
  · rw [if_pos c, if_pos c, if_pos c, c, gd2]
    exact ⟨rfl, rfl, rfl⟩
  · rw [if_neg c, if_neg c, if_neg c, gd1 (by omega)]
    exact h.2.2 i (by omega)
/-- what values and heap change -/
def VF (v v' : Mem) : Prop := (∀ c, ¬ (15 ≤ c ∧ c ≤ 21) → ¬ (32 ≤ c ∧ c ≤ 35) → v' c = v c) ∧ ∀ k, k ≠ 4 → v' 32 k = v 32 k
theorem VF.refl (v : Mem) : VF v v := ⟨fun _ _ _ => rfl, fun _ _ => rfl⟩
theorem VF.trans {v v1 v2 : Mem} (h : VF v v1) (h' : VF v1 v2) : VF v v2 := ⟨fun c a b => (h'.1 c a b).trans (h.1 c a b), fun k hk => (h'.2 k hk).trans (h.2 k hk)⟩
theorem VH.hold {v : Mem} {z : Nat} {H : Hp} {k mo : Nat} {S : List Rw} {ex : Nat → Nat} {a : Int} (h : VH v z H k mo S ex) (ha : a = -1 ∨ ∃ b ∈ H, a = ((b.1 : Nat) : Int)) : HC (m_34 a v) z H k mo (fun p => cnt p S + ex p + (if a = (p : Int) then 1 else 0)) ∧ ∀ c, c ≠ 19 → m_34 a v c = v c := by
  obtain ⟨h1, h2, h3, h4⟩ := h
  rcases ha with e | ⟨b, hb, e⟩
  · rw [m34_n (by omega)]
    refine ⟨h2.rc (fun p => ?_), fun _ _ => rfl⟩
    rw [if_neg (by omega)]
    rfl
  · rw [e]
    have hc := cnt_le (p := b.1) S
    have hx := h4 b.1
    have hl := h1.2.1
    obtain ⟨g1, g2⟩ := h2.hold hb (by show cnt b.1 S + ex b.1 < 4900; omega)
    refine ⟨g1.rc (fun p => ?_), g2⟩
    by_cases c : p = b.1
    · rw [if_pos (by omega), if_pos c, c]
    · rw [if_neg (by omega), if_neg c]
      rfl
theorem VH.push {t : Int} {d : Nat} {v : Mem} {Q : Int → Mem → Prop} {z : Nat} {H : Hp} {k mo : Nat} {S : List Rw} {ex : Nat → Nat} {r : Rw} (h : VH v z H k mo S ex) (hl : S.length < 1440) (ha : r.1 = -1 ∨ ∃ b ∈ H, r.1 = ((b.1 : Nat) : Int)) (hq : ∀ v', VH v' z H k mo (S ++ [r]) ex → VF v v' → Q 0 v') : RR t (d + 1) 142 [(2, 32), (0, r.1), (0, r.2.1), (0, r.2.2)] v Q := by
  obtain ⟨g1, g2⟩ := h.hold ha
  obtain ⟨h1, h2, h3, h4⟩ := h
  have e32 : m_34 r.1 v 32 = v 32 := g2 32 (by decide)
  refine s_142 ?_
  rw [e32, h1.1, Int.toNat_natCast, wS (k := S.length) (m := 1440) hl (by decide)]
  have g : 0 ≤ ((S.length : Nat) : Int) ∧ ((S.length : Nat) : Int) < 1440 := ⟨by omega, by omega⟩
  refine ⟨fun c => absurd c (by omega), fun _ => ⟨fun _ => ⟨g, g, g, hq _ ⟨VR.push h1 hl ?_ (fun i => ⟨?_, ?_, ?_⟩), ?_, fun q hq => ?_, h4⟩ ⟨fun c c1 c2 => ?_, fun k hk => ?_⟩⟩, fun c => absurd (by omega) c⟩⟩
  · rw [up_k]
  · rw [up_ne (by decide), up_ne (by decide), up_ne (by decide)]
    by_cases c : i = S.length
    · rw [if_pos c, c, up_k]
    · rw [if_neg c, up_nk c, g2 33 (by decide)]
  · rw [up_ne (by decide), up_ne (by decide)]
    by_cases c : i = S.length
    · rw [if_pos c, c, up_k]
    · rw [if_neg c, up_nk c, up_ne (by decide), g2 34 (by decide)]
  · rw [up_ne (by decide)]
    by_cases c : i = S.length
    · rw [if_pos c, c, up_k]
    · rw [if_neg c, up_nk c, up_ne (by decide), up_ne (by decide), g2 35 (by decide)]
  · have e : ∀ c, ¬ (32 ≤ c ∧ c ≤ 35) → up (up (up (up (m_34 r.1 v) 33 S.length r.1) 34 S.length r.2.1) 35 S.length r.2.2) 32 4 ((S.length + 1 : Nat) : Int) c = m_34 r.1 v c := fun c hc => by
      rw [up_ne (by omega), up_ne (by omega), up_ne (by omega), up_ne (by omega)]
    obtain ⟨⟨a1, a2, a3⟩, a4, a5, a6⟩ := g1
    refine ⟨⟨a1, a2, CHN_same (fun c hc => e c (by omega)) H 4000 a3⟩, by rw [e 15 (by omega)]; exact a4, fun p hp => ?_, fun p hp hn => ?_⟩
    · rw [e 19 (by omega), a5 p hp]
      dsimp only
      rw [cnt_one]
      congr 1
      omega
    · rw [e 18 (by omega)]
      have := a6 p hp hn
      dsimp only at this ⊢
      rw [cnt_one]
      exact ⟨this.1, by omega⟩
  · rcases List.mem_append.mp hq with hq | hq
    · exact h3 q hq
    · rcases List.mem_cons.mp hq with e | e
      · rw [e]; exact ha
      · cases e
  · rw [up_ne (by omega), up_ne (by omega), up_ne (by omega), up_ne (by omega), g2 c (by omega)]
  · rw [up_nk hk, up_ne (by decide), up_ne (by decide), up_ne (by decide), e32]
