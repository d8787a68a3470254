/-! The class's values: give. -/
theorem set_app {r q : Rw} : ∀ (S : List Rw) (i : Nat), i < S.length → (S ++ [q]).set i r = S.set i r ++ [q] := by
  intro S
  induction S with
  | nil => intro i h; exact absurd h (Nat.not_lt_zero _)
  | cons a S ih =>
    intro i h
    cases i with
    | zero => rfl
    | succ i =>
      have := ih i (by rw [List.length_cons] at h; omega)
      show a :: (S ++ [q]).set i r = a :: (S.set i r ++ [q])
      rw [this]
theorem VH.give {t : Int} {d : Nat} {v : Mem} {Q : Int → Mem → Prop} {z : Nat} {H : Hp} {k mo : Nat} {S : List Rw} {r : Rw} {i : Nat} (h : VH v z H k mo (S ++ [r]) z0) (hl : LV (S ++ [r]) z0 H) (hi : i < S.length) (hq : ∀ v', VH v' z (gc (S.set i r) z0 H) k mo (S.set i r) z0 → LV (S.set i r) z0 (gc (S.set i r) z0 H) → VF v v' → Q 0 v') : RR t (d + 2) 147 [(2, 32), (0, (i : Int))] v Q := by
  have hr := h.2.2.1 r (List.mem_append_right _ List.mem_cons_self)
  obtain ⟨g1, g2⟩ := h.hold hr
  obtain ⟨h1, h2, h3, h4⟩ := h
  have ll : (S ++ [r]).length = S.length + 1 := by rw [List.length_append]; rfl
  obtain ⟨o1, o2, o3⟩ := h1.2.2 S.length (by rw [ll]; omega)
  rw [gd2] at o1 o2 o3
  have p4 := h1.2.1
  rw [ll] at p4
  have p3 : v 32 4 = ((S.length + 1 : Nat) : Int) := by rw [h1.1, ll]
  have hold := (h1.2.2 i (by rw [ll]; omega)).1
  refine s_147 (d := d + 1) ?_
  rw [p3, wP1 (by omega), Int.toNat_natCast, Int.toNat_natCast, o1, g2 33 (by decide), g2 34 (by decide), g2 35 (by decide), o1, o2, o3, hold]
  refine ⟨fun c => absurd c (by omega), fun _ => ⟨fun _ => ⟨fun _ => ⟨fun c => absurd c (by omega), fun _ => ⟨fun _ => ⟨fun _ => ?_, fun c => absurd (by omega) c⟩, fun c => absurd (by omega) c⟩⟩, fun c => absurd (by omega) c⟩, fun c => absurd (by omega) c⟩⟩
  obtain ⟨w, hw⟩ : ∃ w, up (up (up (m_34 r.1 v) 33 i r.1) 34 i r.2.1) 35 i r.2.2 = w := ⟨_, rfl⟩
  rw [hw]
  have ew : ∀ c, ¬ (33 ≤ c ∧ c ≤ 35) → w c = m_34 r.1 v c := fun c hc => by rw [← hw, up_ne (by omega), up_ne (by omega), up_ne (by omega)]
  have hV : VR w ((S ++ [r]).set i r) := by
    refine VR.set h1 (by rw [ll]; omega) (by rw [ew 32 (by omega), g2 32 (by decide)]) (fun j => ⟨?_, ?_, ?_⟩)
    · rw [← hw, up_ne (by decide), up_ne (by decide)]
      by_cases c : j = i
      · rw [if_pos c, c, up_k]
      · rw [if_neg c, up_nk c, g2 33 (by decide)]
    · rw [← hw, up_ne (by decide)]
      by_cases c : j = i
      · rw [if_pos c, c, up_k]
      · rw [if_neg c, up_nk c, up_ne (by decide), g2 34 (by decide)]
    · rw [← hw]
      by_cases c : j = i
      · rw [if_pos c, c, up_k]
      · rw [if_neg c, up_nk c, up_ne (by decide), up_ne (by decide), g2 35 (by decide)]
  have hH : HC w z H k mo (fun p => cnt p (S ++ [r]) + z0 p + (if r.1 = (p : Int) then 1 else 0)) := by
    obtain ⟨⟨a1, a2, a3⟩, a4, a5, a6⟩ := g1
    exact ⟨⟨a1, a2, CHN_same (fun c hc => ew c (by omega)) H 4000 a3⟩, by rw [ew 15 (by omega)]; exact a4, by rw [ew 19 (by omega)]; exact a5, by rw [ew 18 (by omega)]; exact a6⟩
  obtain ⟨k1, k2⟩ := VH.setd (v := v) hV (by rw [ll]; omega) hH h3 hr hl
  rw [set_app S i hi] at k1
  have kl : LV (S.set i r ++ [r]) z0 (gc (S.set i r ++ [r]) z0 H) := LV.gc
  refine VH.pop (T := [r]) k1 kl (fun v' k4 k5 k6 => ?_)
  rw [gc_gc] at k4 k5
  refine hq v' k4 k5 (VF.trans ⟨fun c c1 c2 => ?_, fun x hx => ?_⟩ k6)
  · rw [k2 c (by omega), ew c (by omega), g2 c (by omega)]
  · rw [k2 32 (by omega), ew 32 (by omega), g2 32 (by decide)]
