/-! The class's values: the topmost one goes to a local. -/
theorem cnt_set {p : Nat} {r : Rw} : ∀ (S : List Rw) (i : Nat), i < S.length → cnt p (S.set i r) + (if (S.getD i (-1, 0, 0)).1 = (p : Int) then 1 else 0) = cnt p S + (if r.1 = (p : Int) then 1 else 0) := by
  intro S
  induction S with
  | nil => intro i h; exact absurd h (Nat.not_lt_zero _)
  | cons q S ih =>
    intro i h
    cases i with
    | zero =>
      show (if r.1 = (p : Int) then 1 else 0) + cnt p S + (if q.1 = (p : Int) then 1 else 0) = (if q.1 = (p : Int) then 1 else 0) + cnt p S + (if r.1 = (p : Int) then 1 else 0)
      omega
    | succ i =>
      have := ih i (by rw [List.length_cons] at h; omega)
      show (if q.1 = (p : Int) then 1 else 0) + cnt p (S.set i r) + (if (S.getD i (-1, 0, 0)).1 = (p : Int) then 1 else 0) = (if q.1 = (p : Int) then 1 else 0) + cnt p S + (if r.1 = (p : Int) then 1 else 0)
      omega
theorem getD_set {r : Rw} : ∀ (S : List Rw) (i j : Nat), i < S.length → (S.set i r).getD j (-1, 0, 0) = (if j = i then r else S.getD j (-1, 0, 0)) := by
  intro S
  induction S with
  | nil => intro i j h; exact absurd h (Nat.not_lt_zero _)
  | cons q S ih =>
    intro i j h
    cases i with
    | zero =>
      cases j with
      | zero => rfl
      | succ j => rw [if_neg (by omega)]; rfl
    | succ i =>
      cases j with
      | zero => rw [if_neg (by omega)]; rfl
      | succ j =>
        have := ih i j (by rw [List.length_cons] at h; omega)
        show (S.set i r).getD j (-1, 0, 0) = (if j + 1 = i + 1 then r else S.getD j (-1, 0, 0))
        rw [this]
        by_cases e : j = i
        · rw [if_pos e, if_pos (by omega)]
        · rw [if_neg e, if_neg (by omega)]
/-- row i is r from now on, its old block goes -/
theorem VR.set {v v' : Mem} {S : List Rw} {r : Rw} {i : Nat} (h : VR v S) (hi : i < S.length) (e32 : v' 32 4 = v 32 4) (e : ∀ j, v' 33 j = (if j = i then r.1 else v 33 j) ∧ v' 34 j = (if j = i then r.2.1 else v 34 j) ∧ v' 35 j = (if j = i then r.2.2 else v 35 j)) : VR v' (S.set i r) := by
  obtain ⟨h1, h2, h3⟩ := h
  refine ⟨by rw [List.length_set, e32]; exact h1, by rw [List.length_set]; exact h2, fun j hj => ?_⟩
  rw [List.length_set] at hj
  obtain ⟨e1, e2, e3⟩ := e j
  rw [e1, e2, e3, getD_set S i j hi]
  by_cases c : j = i
  · rw [if_pos c, if_pos c, if_pos c, if_pos c]
    exact ⟨rfl, rfl, rfl⟩
  · rw [if_neg c, if_neg c, if_neg c, if_neg c]
    exact h3 j hj
theorem mem_set {r q : Rw} : ∀ (S : List Rw) (i : Nat), q ∈ S.set i r → q = r ∨ q ∈ S := by
  intro S
  induction S with
  | nil => intro i h; exact Or.inr h
  | cons a S ih =>
    intro i h
    cases i with
    | zero =>
      rcases List.mem_cons.mp h with e | e
      · exact Or.inl e
      · exact Or.inr (List.mem_cons_of_mem _ e)
    | succ i =>
      rcases List.mem_cons.mp h with e | e
      · rw [e]; exact Or.inr List.mem_cons_self
      · rcases ih i e with e | e
        · exact Or.inl e
        · exact Or.inr (List.mem_cons_of_mem _ e)
/-- the block of a row that was set to r goes; rc counts r already -/
theorem VH.setd {v v' : Mem} {z : Nat} {H : Hp} {k mo : Nat} {S : List Rw} {r : Rw} {i : Nat} (hV : VR v' (S.set i r)) (hi : i < S.length) (hH : HC v' z H k mo (fun p => cnt p S + z0 p + (if r.1 = (p : Int) then 1 else 0))) (h3 : ∀ q ∈ S, q.1 = -1 ∨ ∃ b ∈ H, q.1 = ((b.1 : Nat) : Int)) (hr : r.1 = -1 ∨ ∃ b ∈ H, r.1 = ((b.1 : Nat) : Int)) (hl : LV S z0 H) : VH (m_35 (S.getD i (-1, 0, 0)).1 v') z (gc (S.set i r) z0 H) k mo (S.set i r) z0 ∧ ∀ c, ¬ (15 ≤ c ∧ c ≤ 19) → m_35 (S.getD i (-1, 0, 0)).1 v' c = v' c := by
  have hc : HC v' z H k mo (fun p => cnt p (S.set i r) + z0 p + (if (S.getD i (-1, 0, 0)).1 = (p : Int) then 1 else 0)) := hH.rc (fun p => by
    have := cnt_set (p := p) (r := r) S i hi
    show cnt p (S.set i r) + z0 p + (if (S.getD i (-1, 0, 0)).1 = (p : Int) then 1 else 0) = cnt p S + z0 p + (if r.1 = (p : Int) then 1 else 0)
    omega)
  obtain ⟨d1, d2⟩ := hc.dropx (h3 _ (getD_mem S i hi)) (fun p => by
    have := cnt_le (p := p) (S.set i r)
    have h9 := hV.2.1
    show cnt p (S.set i r) + 0 ≤ 4000
    omega) (fun b hb => by
    have h8 := hl b hb
    have := cnt_set (p := b.1) (r := r) S i hi
    omega)
  refine ⟨⟨hV.same (by rw [d2 32 (by omega)]) (fun c hc => d2 c (by omega)), d1, fun q hq => ?_, fun p => by show 0 ≤ 10; omega⟩, d2⟩
  have hqb : q.1 = -1 ∨ ∃ b ∈ H, q.1 = ((b.1 : Nat) : Int) := by
    rcases mem_set S i hq with e | e
    · rw [e]; exact hr
    · exact h3 q e
  rcases hqb with e | ⟨b, hb, e⟩
  · exact Or.inl e
  · refine Or.inr ⟨b, gc_in.mpr ⟨hb, ?_⟩, e⟩
    have := cnt_in (p := b.1) _ hq e
    omega
