/-! The blocks: one goes. -/
def hdel (p : Nat) : Hp → Hp
  | [] => []
  | b :: r => if b.1 = p then r else b :: hdel p r
def hsum : Hp → Nat
  | [] => 0
  | b :: r => b.2.1 + hsum r
theorem hok_dn {z : Nat} : ∀ (H : Hp) (lo lo' : Nat), hok z lo' H → lo ≤ lo' → hok z lo H := by
  intro H
  cases H with
  | nil => intro lo lo' h hl; exact Nat.le_trans hl h
  | cons b r => intro lo lo' h hl; exact ⟨Nat.le_trans hl h.1, h.2.1, h.2.2⟩
theorem hok_del {z p : Nat} : ∀ (H : Hp) (lo : Nat), hok z lo H → hok z lo (hdel p H) := by
  intro H
  induction H with
  | nil => intro lo h; exact h
  | cons b r ih =>
    intro lo h
    show hok z lo (if b.1 = p then r else b :: hdel p r)
    split
    · exact hok_dn r lo _ h.2.2 (by have := h.1; omega)
    · exact ⟨h.1, h.2.1, ih _ h.2.2⟩
theorem hsum_le {z : Nat} : ∀ (H : Hp) (lo : Nat), hok z lo H → hsum H + lo ≤ z := by
  intro H
  induction H with
  | nil => intro lo h; have : lo ≤ z := h; show 0 + lo ≤ z; omega
  | cons b r ih =>
    intro lo h
    have := ih _ h.2.2
    have := h.1
    show b.2.1 + hsum r + lo ≤ z
    omega
theorem hsum_hin {need k : Nat} : ∀ (H : Hp) (lo : Nat), hsum (hin need k lo H) = hsum H + need := by
  intro H
  induction H with
  | nil => intro lo; show need + 0 = 0 + need; omega
  | cons b r ih =>
    intro lo
    show hsum (if lo + need ≤ b.1 then (lo, need, k) :: b :: r else b :: hin need k (b.1 + b.2.1) r) = b.2.1 + hsum r + need
    split
    · show need + (b.2.1 + hsum r) = _
      omega
    · show b.2.1 + hsum (hin need k (b.1 + b.2.1) r) = _
      rw [ih]
      omega
theorem hsum_del {b : Nat × Nat × Nat} {z : Nat} : ∀ (H : Hp) (lo : Nat), hok z lo H → b ∈ H → hsum (hdel b.1 H) + b.2.1 = hsum H := by
  intro H
  induction H with
  | nil => intro lo h hb; cases hb
  | cons c r ih =>
    intro lo h hb
    show hsum (if c.1 = b.1 then r else c :: hdel b.1 r) + b.2.1 = c.2.1 + hsum r
    rcases List.mem_cons.mp hb with e | e
    · rw [← e, if_pos rfl]; omega
    · have hlow : ∀ (r : Hp) (lo : Nat), hok z lo r → b ∈ r → lo ≤ b.1 := by
        intro r
        induction r with
        | nil => intro lo h hb; cases hb
        | cons c r ih =>
          intro lo h hb
          rcases List.mem_cons.mp hb with e | e
          · rw [e]; exact h.1
          · have := ih _ h.2.2 e
            have := h.1
            omega
      have := hlow r _ h.2.2 e
      have h2 := h.2.1
      rw [if_neg (by omega)]
      have := ih _ h.2.2 e
      show c.2.1 + hsum (hdel b.1 r) + b.2.1 = _
      omega
theorem hok_in {z : Nat} {b : Nat × Nat × Nat} : ∀ (r : Hp) (lo : Nat), hok z lo r → b ∈ r → lo ≤ b.1 ∧ 2 ≤ b.2.1 ∧ b.1 + b.2.1 ≤ z := by
  intro r
  induction r with
  | nil => intro lo h hb; cases hb
  | cons c r ih =>
    intro lo h hb
    rcases List.mem_cons.mp hb with e | e
    · rw [e]; exact ⟨h.1, h.2.1, hok_le r _ h.2.2⟩
    · have := ih _ h.2.2 e
      have := h.1
      omega
/-- a reference less -/
def dpM (v : Mem) (p r : Nat) : Mem := up (up v 15 12 1) 19 p (r : Int)
/-- the last one goes, and the block with it -/
def frM (v : Mem) (p pr f tk s : Nat) : Mem := up (up (up (up (up (up v 15 12 1) 19 p 0) 15 8 ((tk - s : Nat) : Int)) 18 p 0) 16 pr (f : Int)) 17 f (pr : Int)
theorem m35_n {v : Mem} {a : Int} (h : a < 0) : m_35 a v = v := by unfold m_35; rw [if_pos h]
theorem m35_k {v : Mem} {p r : Nat} (hp : p < 4000) (h : v 19 p = ((r + 1 : Nat) : Int)) (hr : 1 ≤ r) (hr2 : r < 4900) : m_35 (p : Int) v = dpM v p r := by
  unfold m_35 dpM
  rw [if_neg (by omega), if_pos (by omega), Int.toNat_natCast, h, wP1 (by omega), up_k, if_pos (by omega)]
theorem m35_f {v : Mem} {p pr f tk s : Nat} (hp : p < 4000) (h : v 19 p = 1) (h18 : v 18 p = (s : Int)) (hs : 1 ≤ s) (h17 : v 17 p = (pr : Int)) (hpr : pr ≤ 4000) (h16 : v 16 p = (f : Int)) (hf : f ≤ 4000) (h8 : v 15 8 = (tk : Int)) (hst : s ≤ tk) (ht : tk < 2000000000) : m_35 (p : Int) v = frM v p pr f tk s := by
  have e1 : w32 ((1 : Int) - 1) = 0 := rfl
  unfold m_35 frM
  rw [if_neg (by omega), if_pos (by omega), Int.toNat_natCast, h, e1, up_k, if_neg (by decide), h18, if_pos (by omega), h17, if_neg (by omega), if_neg (by omega), h16, if_neg (by omega), if_neg (by omega), h8, Int.toNat_natCast, Int.toNat_natCast, wNat (k := tk - s) (a := (tk : Int) - (s : Int)) (by omega) (by omega)]
theorem fr_16 {v : Mem} {p pr f tk s x : Nat} (h : x ≠ pr) : frM v p pr f tk s 16 x = v 16 x := by
  unfold frM
  rw [up_ne (by decide), up_nk h, up_ne (by decide), up_ne (by decide), up_ne (by decide), up_ne (by decide)]
theorem fr_17 {v : Mem} {p pr f tk s x : Nat} (h : x ≠ f) : frM v p pr f tk s 17 x = v 17 x := by
  unfold frM
  rw [up_nk h, up_ne (by decide), up_ne (by decide), up_ne (by decide), up_ne (by decide), up_ne (by decide)]
theorem fr_18 {v : Mem} {p pr f tk s x : Nat} (h : x ≠ p) : frM v p pr f tk s 18 x = v 18 x := by
  unfold frM
  rw [up_ne (by decide), up_ne (by decide), up_nk h, up_ne (by decide), up_ne (by decide), up_ne (by decide)]
theorem fr_20 {v : Mem} {p pr f tk s x : Nat} : frM v p pr f tk s 20 x = v 20 x := by
  unfold frM
  rw [up_ne (by decide), up_ne (by decide), up_ne (by decide), up_ne (by decide), up_ne (by decide), up_ne (by decide)]
theorem fr_a {v : Mem} {p pr f tk s : Nat} : frM v p pr f tk s 16 pr = (f : Int) ∧ frM v p pr f tk s 17 f = (pr : Int) := by
  unfold frM
  exact ⟨by rw [up_ne (by decide), up_k], by rw [up_k]⟩
theorem CHN_fr {v : Mem} {p pr f tk s z : Nat} (hz : z ≤ 4000) : ∀ (r : Hp) (x lo : Nat), hok z lo r → CHN v x r → p < x → (pr < x ∨ pr = 4000) → x < 4000 → f ≤ x → x < lo → CHN (frM v p pr f tk s) x r := by
  intro r
  induction r with
  | nil =>
    intro x lo h q h1 h2 h3 h4 h5
    exact ⟨by rw [fr_16 (by omega)]; exact q.1, by rw [fr_17 (by omega)]; exact q.2⟩
  | cons b r ih =>
    intro x lo h q h1 h2 h3 h4 h5
    have hb : b.1 + b.2.1 ≤ z := hok_le r _ h.2.2
    have hb1 := h.1
    have hb2 := h.2.1
    exact ⟨by rw [fr_16 (by omega)]; exact q.1, by rw [fr_17 (by omega)]; exact q.2.1, by rw [fr_18 (by omega)]; exact q.2.2.1, by rw [fr_20]; exact q.2.2.2.1, ih _ _ h.2.2 q.2.2.2.2 (by omega) (by omega) (by omega) (by omega) (by omega)⟩
theorem CHN_del {v : Mem} {b : Nat × Nat × Nat} {tk s z : Nat} (hz : z ≤ 4000) : ∀ (H : Hp) (prev lo : Nat), hok z lo H → CHN v prev H → (prev = 4000 ∨ prev + 2 ≤ lo) → b ∈ H → ∃ pr f : Nat, v 17 b.1 = (pr : Int) ∧ v 16 b.1 = (f : Int) ∧ (pr = prev ∨ (lo ≤ pr ∧ pr < b.1)) ∧ (f = 4000 ∨ (b.1 < f ∧ f < 4000)) ∧ v 18 b.1 = (b.2.1 : Int) ∧ v 20 b.1 = (b.2.2 : Int) ∧ CHN (frM v b.1 pr f tk s) prev (hdel b.1 H) := by
  intro H
  induction H with
  | nil => intro prev lo h q hp hb; cases hb
  | cons c r ih =>
    intro prev lo h q hp hb
    have hc : c.1 + c.2.1 ≤ z := hok_le r _ h.2.2
    have hc1 := h.1
    have hc2 := h.2.1
    obtain ⟨q1, q2, q3, q4, q5⟩ := q
    have hd : hdel b.1 (c :: r) = (if c.1 = b.1 then r else c :: hdel b.1 r) := rfl
    rw [hd]
    rcases List.mem_cons.mp hb with e | e
    · subst e
      rw [if_pos rfl]
      match r, h, q5 with
      | [], h, q5 =>
        refine ⟨prev, 4000, q2, q5.1, Or.inl rfl, Or.inl rfl, q3, q4, ?_⟩
        exact fr_a
      | c' :: r', h, q5 =>
        obtain ⟨p1, p2, p3, p4, p5⟩ := q5
        have g1 : b.1 + b.2.1 ≤ c'.1 := h.2.2.1
        have g2 : 2 ≤ c'.2.1 := h.2.2.2.1
        have g3 : c'.1 + c'.2.1 ≤ z := hok_le r' _ h.2.2.2.2
        refine ⟨prev, c'.1, q2, p1, Or.inl rfl, Or.inr (by omega), q3, q4, ?_⟩
        obtain ⟨m1, m2⟩ := fr_a (v := v) (p := b.1) (pr := prev) (f := c'.1) (tk := tk) (s := s)
        refine ⟨m1, m2, by rw [fr_18 (by omega)]; exact p3, by rw [fr_20]; exact p4, ?_⟩
        exact CHN_fr hz r' c'.1 _ h.2.2.2.2 p5 (by omega) (by omega) (by omega) (Nat.le_refl _) (by omega)
    · have hb3 := hok_in r _ h.2.2 e
      rw [if_neg (by omega)]
      obtain ⟨pr, f, a1, a2, a3, a4, a5, a6, a7⟩ := ih c.1 (c.1 + c.2.1) h.2.2 q5 (Or.inr (by omega)) e
      refine ⟨pr, f, a1, a2, Or.inr (by omega), a4, a5, a6, ?_, ?_, ?_, ?_, a7⟩
      · rw [fr_16 (by omega)]; exact q1
      · rw [fr_17 (by omega)]; exact q2
      · rw [fr_18 (by omega)]; exact q3
      · rw [fr_20]; exact q4
