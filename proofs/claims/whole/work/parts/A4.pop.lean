/-! The class's values: rows go, and blocks with them. -/
theorem hdel_flt {z p : Nat} {P : Nat × Nat × Nat → Bool} : ∀ (H : Hp) (lo : Nat), hok z lo H → (∀ c ∈ H, c.1 ≠ p → P c = true) → (∀ c ∈ H, c.1 = p → P c = false) → H.filter P = hdel p H := by
  intro H
  induction H with
  | nil => intro lo h h1 h2; rfl
  | cons b r ih =>
    intro lo h h1 h2
    show (b :: r).filter P = (if b.1 = p then r else b :: hdel p r)
    by_cases e : b.1 = p
    · rw [if_pos e, List.filter_cons, h2 b List.mem_cons_self e]
      show r.filter P = r
      refine List.filter_eq_self.mpr (fun c hc => h1 c (List.mem_cons_of_mem _ hc) ?_)
      have := hok_in r _ h.2.2 hc
      have := h.2.1
      omega
    · rw [if_neg e, List.filter_cons, h1 b List.mem_cons_self e]
      show b :: r.filter P = b :: hdel p r
      rw [ih _ h.2.2 (fun c hc => h1 c (List.mem_cons_of_mem _ hc)) (fun c hc => h2 c (List.mem_cons_of_mem _ hc))]
theorem filt2 {P R : Nat × Nat × Nat → Bool} (h : ∀ b, P b = true → R b = true) : ∀ H : Hp, (H.filter R).filter P = H.filter P := by
  intro H
  induction H with
  | nil => rfl
  | cons b r ih =>
    rw [List.filter_cons, List.filter_cons]
    cases hP : P b with
    | true =>
      rw [h b hP]
      show (b :: r.filter R).filter P = b :: r.filter P
      rw [List.filter_cons, hP, ih]
      rfl
    | false =>
      cases hR : R b with
      | true =>
        show (b :: r.filter R).filter P = r.filter P
        rw [List.filter_cons, hP, ih]
        rfl
      | false => exact ih
/-- every block is referred to -/
def LV (S : List Rw) (ex : Nat → Nat) (H : Hp) : Prop := ∀ b ∈ H, 0 < cnt b.1 S + ex b.1
theorem gc_id {S : List Rw} {ex : Nat → Nat} {H : Hp} (h : LV S ex H) : gc S ex H = H := List.filter_eq_self.mpr (fun b hb => decide_eq_true (h b hb))
theorem gc_in {S : List Rw} {ex : Nat → Nat} {H : Hp} {b : Nat × Nat × Nat} : b ∈ gc S ex H ↔ b ∈ H ∧ 0 < cnt b.1 S + ex b.1 := by
  unfold gc
  rw [List.mem_filter, decide_eq_true_iff]
theorem LV.gc {S : List Rw} {ex : Nat → Nat} {H : Hp} : LV S ex (gc S ex H) := fun b hb => (gc_in.mp hb).2
theorem gc_gc {S T : List Rw} {ex : Nat → Nat} {H : Hp} : gc S ex (gc (S ++ T) ex H) = gc S ex H := filt2 (fun b hb => by
  have h := of_decide_eq_true hb
  refine decide_eq_true ?_
  rw [cnt_app]
  omega) H
theorem HC.dropx {v : Mem} {z : Nat} {H : Hp} {k mo : Nat} {S : List Rw} {ex : Nat → Nat} {a : Int} (h : HC v z H k mo (fun p => cnt p S + ex p + (if a = (p : Int) then 1 else 0))) (ha : a = -1 ∨ ∃ b ∈ H, a = ((b.1 : Nat) : Int)) (hx : ∀ p, cnt p S + ex p ≤ 4000) (hlv : ∀ b ∈ H, 0 < cnt b.1 S + ex b.1 + (if a = ((b.1 : Nat) : Int) then 1 else 0)) : HC (m_35 a v) z (gc S ex H) k mo (fun p => cnt p S + ex p) ∧ ∀ c, ¬ (15 ≤ c ∧ c ≤ 19) → m_35 a v c = v c := by
  rcases ha with e | ⟨b, hb, e⟩
  · rw [m35_n (by omega), gc_id (fun b hb => by
      have := hlv b hb
      rw [if_neg (by omega)] at this
      exact this)]
    refine ⟨h.rc (fun p => ?_), fun _ _ => rfl⟩
    rw [if_neg (by omega)]
    rfl
  · subst e
    have hxb := hx b.1
    by_cases c0 : cnt b.1 S + ex b.1 = 0
    · obtain ⟨g1, g2⟩ := h.drop1 hb (by rw [if_pos rfl]; omega)
      have eg : gc S ex H = hdel b.1 H := hdel_flt H 0 h.1.2.1 (fun c hc hne => decide_eq_true (by
        have := hlv c hc
        rw [if_neg (by omega)] at this
        exact this)) (fun c hc he => decide_eq_false (by rw [he]; omega))
      rw [eg]
      refine ⟨g1.rc (fun p => ?_), g2⟩
      by_cases c : p = b.1
      · rw [if_pos c, c]; exact c0
      · rw [if_neg c, if_neg (by omega)]; rfl
    · obtain ⟨g1, g2⟩ := h.drop2 hb (by rw [if_pos rfl]; omega) (by rw [if_pos rfl]; omega)
      rw [gc_id (fun c hc => by
        have := hlv c hc
        by_cases q : c.1 = b.1
        · rw [q]; omega
        · rw [if_neg (by omega)] at this
          exact this)]
      refine ⟨g1.rc (fun p => ?_), fun c hc => g2 c (by omega) (by omega)⟩
      by_cases c : p = b.1
      · rw [if_pos c, if_pos rfl, c]; rfl
      · rw [if_neg c, if_neg (by omega)]; rfl
theorem snoc {α : Type} : ∀ (T : List α) (n : Nat), T.length = n + 1 → ∃ T' r, T = T' ++ [r] ∧ T'.length = n := by
  intro T
  induction T with
  | nil => intro n h; cases h
  | cons a T ih =>
    intro n h
    rw [List.length_cons] at h
    cases n with
    | zero =>
      have : T = [] := List.eq_nil_of_length_eq_zero (by omega)
      subst this
      exact ⟨[], a, rfl, rfl⟩
    | succ n =>
      obtain ⟨T', r, e1, e2⟩ := ih n (by omega)
      exact ⟨a :: T', r, by rw [e1]; rfl, by rw [List.length_cons, e2]⟩
theorem VR.pop {v : Mem} {S : List Rw} {r : Rw} (h : VR v (S ++ [r])) : VR (up v 32 4 ((S.length : Nat) : Int)) S ∧ v 33 S.length = r.1 ∧ v 32 4 = ((S.length + 1 : Nat) : Int) ∧ S.length + 1 ≤ 1440 := by
  have ll : (S ++ [r]).length = S.length + 1 := by rw [List.length_append]; rfl
  obtain ⟨h1, h2, h3⟩ := h
  rw [ll] at h1 h2 h3
  refine ⟨⟨up_k, by omega, fun i hi => ?_⟩, ?_, h1, h2⟩
  · have := h3 i (by omega)
    rw [gd1 hi] at this
    rw [up_ne (by decide), up_ne (by decide), up_ne (by decide)]
    exact this
  · have := (h3 S.length (by omega)).1
    rw [gd2] at this
    exact this
theorem pop_lp {t : Int} {d : Nat} {Q : Int → Mem → Prop} {z k mo N : Nat} {S : List Rw} {ex : Nat → Nat} (hN : N ≤ 1440) : ∀ (n : Nat) (T : List Rw) (H : Hp) (v : Mem) (i : Nat), T.length = n → VH v z H k mo (S ++ T) ex → LV (S ++ T) ex H → i + n = N → (∀ v', VH v' z (gc S ex H) k mo S ex → LV S ex (gc S ex H) → VF v v' → Q 0 v') → LL t (d + 1) 144 2 [(2, 32), (0, (N : Int)), (0, (i : Int))] [] v Q := by
  intro n
  induction n with
  | zero =>
    intro T H v i hT h hl hi hq
    have : T = [] := List.eq_nil_of_length_eq_zero hT
    subst this
    rw [List.append_nil] at h hl
    have e := gc_id hl
    rw [e] at hq
    exact s_144_2 ⟨fun c => absurd c (by omega), fun _ => hq v h hl (VF.refl v)⟩
  | succ n ih =>
    intro T H v i hT h hl hi hq
    obtain ⟨T', r, e1, e2⟩ := snoc T n hT
    subst e1
    rw [← List.append_assoc] at h hl
    obtain ⟨h1, h2, h3, h4⟩ := h
    obtain ⟨p1, p2, p3, p4⟩ := h1.pop
    refine s_144_2 ?_
    rw [p3, wP1 (by omega), Int.toNat_natCast, p2, wS (k := i) (m := 1440) (by omega) (by decide)]
    refine ⟨fun _ => ⟨fun _ => ⟨fun c => absurd c (by omega), fun _ => ⟨⟨by omega, by omega⟩, ?_⟩⟩, fun c => absurd (by omega) c⟩, fun c => absurd (by omega) c⟩
    obtain ⟨w, hw⟩ : ∃ w, up v 32 4 (((S ++ T').length : Nat) : Int) = w := ⟨_, rfl⟩
    rw [hw] at p1 ⊢
    have ew : ∀ c, c ≠ 32 → w c = v c := fun c hc => by rw [← hw, up_ne hc]
    have hcw : HC w z H k mo (fun p => cnt p (S ++ T') + ex p + (if r.1 = (p : Int) then 1 else 0)) := by
      have e9 : HC v z H k mo (fun p => cnt p (S ++ T') + ex p + (if r.1 = (p : Int) then 1 else 0)) := h2.rc (fun p => by rw [cnt_one]; omega)
      obtain ⟨⟨a1, a2, a3⟩, a4, a5, a6⟩ := e9
      exact ⟨⟨a1, a2, CHN_same (fun c hc => ew c (by omega)) H 4000 a3⟩, by rw [ew 15 (by decide)]; exact a4, by rw [ew 19 (by decide)]; exact a5, by rw [ew 18 (by decide)]; exact a6⟩
    have hx : ∀ p, cnt p (S ++ T') + ex p ≤ 4000 := fun p => by
      have := cnt_le (p := p) (S ++ T')
      have := h4 p
      omega
    obtain ⟨g1, g2⟩ := hcw.dropx (h3 r (List.mem_append_right _ List.mem_cons_self)) hx (fun b hb => by
      have := hl b hb
      rw [cnt_one] at this
      omega)
    have hvf : VF v (m_35 r.1 w) := ⟨fun c c1 c2 => by rw [g2 c (by omega), ew c (by omega)], fun k hk => by rw [g2 32 (by omega), ← hw, up_nk hk]⟩
    refine ih T' (gc (S ++ T') ex H) (m_35 r.1 w) (i + 1) e2 ⟨p1.same (by rw [g2 32 (by omega)]) (fun c hc => g2 c (by omega)), g1, fun q hq' => ?_, h4⟩ LV.gc (by omega) (fun v' k1 k2 k3 => ?_)
    · rcases h3 q (List.mem_append_left _ hq') with e | ⟨b, hb, e⟩
      · exact Or.inl e
      · refine Or.inr ⟨b, gc_in.mpr ⟨hb, ?_⟩, e⟩
        have := cnt_in (p := b.1) _ hq' e
        omega
    · rw [gc_gc] at k1 k2
      exact hq v' k1 k2 (hvf.trans k3)
/-- pop -/
theorem VH.pop {t : Int} {d : Nat} {v : Mem} {Q : Int → Mem → Prop} {z : Nat} {H : Hp} {k mo : Nat} {S T : List Rw} {ex : Nat → Nat} (h : VH v z H k mo (S ++ T) ex) (hl : LV (S ++ T) ex H) (hq : ∀ v', VH v' z (gc S ex H) k mo S ex → LV S ex (gc S ex H) → VF v v' → Q 0 v') : RR t (d + 1) 144 [(2, 32), (0, (T.length : Int))] v Q := by
  refine w_144 ?_
  have := h.1.2.1
  rw [List.length_append] at this
  exact pop_lp (by omega) T.length T H v 0 rfl h hl (Nat.zero_add _) hq
