/-! The blocks: purely, and as the class holds them. -/
/-- of each block its place, its size, its number; in the order of the places -/
abbrev Hp : Type := List (Nat × Nat × Nat)
def hok (z : Nat) : Nat → Hp → Prop
  | lo, [] => lo ≤ z
  | lo, b :: r => lo ≤ b.1 ∧ 2 ≤ b.2.1 ∧ hok z (b.1 + b.2.1) r
def CHN (v : Mem) : Nat → Hp → Prop
  | p, [] => v 16 p = 4000 ∧ v 17 4000 = ((p : Nat) : Int)
  | p, b :: r => v 16 p = ((b.1 : Nat) : Int) ∧ v 17 b.1 = ((p : Nat) : Int) ∧ v 18 b.1 = ((b.2.1 : Nat) : Int) ∧ v 20 b.1 = ((b.2.2 : Nat) : Int) ∧ CHN v b.1 r
/-- the lowest places that are enough -/
def fit (z need : Nat) : Nat → Hp → Option Nat
  | lo, [] => if lo + need ≤ z then some lo else none
  | lo, b :: r => if lo + need ≤ b.1 then some lo else fit z need (b.1 + b.2.1) r
def hin (need k : Nat) : Nat → Hp → Hp
  | lo, [] => [(lo, need, k)]
  | lo, b :: r => if lo + need ≤ b.1 then (lo, need, k) :: b :: r else b :: hin need k (b.1 + b.2.1) r
theorem hok_le {z : Nat} : ∀ (H : Hp) (lo : Nat), hok z lo H → lo ≤ z := by
  intro H
  induction H with
  | nil => intro lo h; exact h
  | cons b r ih =>
    intro lo h
    have := ih _ h.2.2
    have := h.1
    omega
theorem hok_hin {z need k p : Nat} (h2 : 2 ≤ need) : ∀ (H : Hp) (lo : Nat), hok z lo H → fit z need lo H = some p → hok z lo (hin need k lo H) := by
  intro H
  induction H with
  | nil =>
    intro lo h hf
    have hf : (if lo + need ≤ z then some lo else none) = some p := hf
    split at hf
    · rename_i c
      exact ⟨Nat.le_refl _, h2, c⟩
    · cases hf
  | cons b r ih =>
    intro lo h hf
    have hf : (if lo + need ≤ b.1 then some lo else fit z need (b.1 + b.2.1) r) = some p := hf
    show hok z lo (if lo + need ≤ b.1 then (lo, need, k) :: b :: r else b :: hin need k (b.1 + b.2.1) r)
    split at hf
    · rename_i c
      rw [if_pos c]
      exact ⟨Nat.le_refl _, h2, c, h.2.1, h.2.2⟩
    · rename_i c
      rw [if_neg c]
      exact ⟨h.1, h.2.1, ih _ h.2.2 hf⟩
theorem CHN_same {v v' : Mem} (h : ∀ c, (c = 16 ∨ c = 17 ∨ c = 18 ∨ c = 20) → v' c = v c) : ∀ (H : Hp) (p : Nat), CHN v p H → CHN v' p H := by
  intro H
  induction H with
  | nil =>
    intro p q
    show v' 16 p = _ ∧ v' 17 4000 = _
    rw [h 16 (by omega), h 17 (by omega)]
    exact q
  | cons b r ih =>
    intro p q
    show v' 16 p = _ ∧ v' 17 b.1 = _ ∧ v' 18 b.1 = _ ∧ v' 20 b.1 = _ ∧ CHN v' b.1 r
    rw [h 16 (by omega), h 17 (by omega), h 18 (by omega), h 20 (by omega)]
    exact ⟨q.1, q.2.1, q.2.2.1, q.2.2.2.1, ih _ q.2.2.2.2⟩
/-- block a comes in between pr and f -/
def lnkM (v : Mem) (a pr f : Nat) : Mem := up (up (up (up v 16 pr (a : Int)) 17 a (pr : Int)) 16 a (f : Int)) 17 f (a : Int)
theorem m50 {v : Mem} {a pr f : Nat} (ha : a < 4000) (hf : f ≤ 4000) (hp : pr ≤ 4000) (h : v 17 f = (pr : Int)) : m_50 (a : Int) (f : Int) v = lnkM v a pr f := by
  unfold m_50 lnkM
  rw [if_neg (by omega), if_pos (by omega), if_neg (by omega), if_neg (by omega), Int.toNat_natCast, Int.toNat_natCast, h, if_neg (by omega), if_neg (by omega), Int.toNat_natCast]
/-- behind make -/
def mkM (v : Mem) (a pr f need k tk : Nat) (mo : Int) : Mem := up (up (up (up (up (up (up (lnkM v a pr f) 18 a (need : Int)) 19 a 0) 20 a (k : Int)) 15 7 ((k + 1 : Nat) : Int)) 15 8 ((tk + need : Nat) : Int)) 15 9 (if mo < ((tk + need : Nat) : Int) then ((tk + need : Nat) : Int) else mo)) 15 12 1
theorem mk_16 {v : Mem} {a pr f need k tk : Nat} {mo : Int} {x : Nat} (h1 : x ≠ a) (h2 : x ≠ pr) : mkM v a pr f need k tk mo 16 x = v 16 x := by
  unfold mkM lnkM
  rw [up_ne (by decide), up_ne (by decide), up_ne (by decide), up_ne (by decide), up_ne (by decide), up_ne (by decide), up_ne (by decide), up_ne (by decide), up_nk h1, up_ne (by decide), up_nk h2]
theorem mk_17 {v : Mem} {a pr f need k tk : Nat} {mo : Int} {x : Nat} (h1 : x ≠ a) (h2 : x ≠ f) : mkM v a pr f need k tk mo 17 x = v 17 x := by
  unfold mkM lnkM
  rw [up_ne (by decide), up_ne (by decide), up_ne (by decide), up_ne (by decide), up_ne (by decide), up_ne (by decide), up_ne (by decide), up_nk h2, up_ne (by decide), up_nk h1, up_ne (by decide)]
theorem mk_18 {v : Mem} {a pr f need k tk : Nat} {mo : Int} {x : Nat} (h1 : x ≠ a) : mkM v a pr f need k tk mo 18 x = v 18 x := by
  unfold mkM lnkM
  rw [up_ne (by decide), up_ne (by decide), up_ne (by decide), up_ne (by decide), up_ne (by decide), up_ne (by decide), up_nk h1, up_ne (by decide), up_ne (by decide), up_ne (by decide), up_ne (by decide)]
theorem mk_20 {v : Mem} {a pr f need k tk : Nat} {mo : Int} {x : Nat} (h1 : x ≠ a) : mkM v a pr f need k tk mo 20 x = v 20 x := by
  unfold mkM lnkM
  rw [up_ne (by decide), up_ne (by decide), up_ne (by decide), up_ne (by decide), up_nk h1, up_ne (by decide), up_ne (by decide), up_ne (by decide), up_ne (by decide), up_ne (by decide), up_ne (by decide)]
theorem mk_a {v : Mem} {a pr f need k tk : Nat} {mo : Int} (h1 : a ≠ pr) (h2 : a ≠ f) : mkM v a pr f need k tk mo 16 pr = (a : Int) ∧ mkM v a pr f need k tk mo 17 a = (pr : Int) ∧ mkM v a pr f need k tk mo 16 a = (f : Int) ∧ mkM v a pr f need k tk mo 17 f = (a : Int) ∧ mkM v a pr f need k tk mo 18 a = (need : Int) ∧ mkM v a pr f need k tk mo 20 a = (k : Int) := by
  unfold mkM lnkM
  refine ⟨?_, ?_, ?_, ?_, ?_, ?_⟩
  · rw [up_ne (by decide), up_ne (by decide), up_ne (by decide), up_ne (by decide), up_ne (by decide), up_ne (by decide), up_ne (by decide), up_ne (by decide), up_nk (fun e => h1 e.symm), up_ne (by decide), up_k]
  · rw [up_ne (by decide), up_ne (by decide), up_ne (by decide), up_ne (by decide), up_ne (by decide), up_ne (by decide), up_ne (by decide), up_nk h2, up_ne (by decide), up_k]
  · rw [up_ne (by decide), up_ne (by decide), up_ne (by decide), up_ne (by decide), up_ne (by decide), up_ne (by decide), up_ne (by decide), up_ne (by decide), up_k]
  · rw [up_ne (by decide), up_ne (by decide), up_ne (by decide), up_ne (by decide), up_ne (by decide), up_ne (by decide), up_ne (by decide), up_k]
  · rw [up_ne (by decide), up_ne (by decide), up_ne (by decide), up_ne (by decide), up_ne (by decide), up_ne (by decide), up_k]
  · rw [up_ne (by decide), up_ne (by decide), up_ne (by decide), up_ne (by decide), up_k]
/-- blocks behind a place stay as they are while one comes in before it -/
theorem CHN_far {v : Mem} {a pr f need k tk : Nat} {mo : Int} {z : Nat} (hz : z ≤ 4000) : ∀ (r : Hp) (p lo : Nat), hok z lo r → CHN v p r → a < p → pr ≠ p → (pr < p ∨ pr = 4000) → f ≤ p → p < lo → CHN (mkM v a pr f need k tk mo) p r := by
  intro r
  induction r with
  | nil =>
    intro p lo h q h1 h3 h4 h5 h6
    have hl : lo ≤ z := h
    exact ⟨by rw [mk_16 (by omega) (by omega)]; exact q.1, by rw [mk_17 (by omega) (by omega)]; exact q.2⟩
  | cons b r ih =>
    intro p lo h q h1 h3 h4 h5 h6
    have hb : b.1 + b.2.1 ≤ z := hok_le r _ h.2.2
    have hb1 := h.1
    have hb2 := h.2.1
    exact ⟨by rw [mk_16 (by omega) (by omega)]; exact q.1, by rw [mk_17 (by omega) (by omega)]; exact q.2.1, by rw [mk_18 (by omega)]; exact q.2.2.1, by rw [mk_20 (by omega)]; exact q.2.2.2.1, ih _ _ h.2.2 q.2.2.2.2 (by omega) (by omega) (by omega) (by omega) (by omega)⟩
theorem ex69 {t : Int} {d : Nat} {v : Mem} {Q : Int → Mem → Prop} {z need k tk a pr f : Nat} {mo : Int} (hz : z ≤ 4000) (h6 : v 15 6 = (z : Int)) (h7 : v 15 7 = (k : Int)) (h8 : v 15 8 = (tk : Int)) (h9 : v 15 9 = mo) (hk : k < 2000000000) (htk : tk + need < 2000000000) (h2 : 2 ≤ need) (ha : a + need ≤ z) (hf : f ≤ 4000) (hfa : f < 4000 → a + need ≤ f) (hpr : pr ≤ 4000) (h17 : v 17 f = (pr : Int)) (hq : Q (a : Int) (mkM v a pr f need k tk mo)) : LL t (d + 2) 33 69 [(2, 15), (3, 0), (0, (need : Int)), (0, (a : Int)), (0, (f : Int)), (3, 0)] [] v Q := by
  have e15 : lnkM v a pr f 15 = v 15 := by
    unfold lnkM
    rw [up_ne (by decide), up_ne (by decide), up_ne (by decide), up_ne (by decide)]
  have g : 0 ≤ (a : Int) ∧ (a : Int) < 4000 := ⟨by omega, by omega⟩
  refine s_33_69 (d := d) ?_
  rw [m50 (by omega) hf hpr h17, e15, h6, h7, h8, h9, Int.toNat_natCast, wNat (k := k + 1) (a := (k : Int) + 1) (by omega) (by omega), wNat (k := tk + need) (a := (tk : Int) + (need : Int)) (by omega) (by omega)]
  unfold f_275
  refine ⟨fun c => absurd c (by omega), fun _ => ⟨fun _ => ⟨fun c => absurd c (by omega), fun _ => ⟨fun c4 => ?_, fun c4 => ?_⟩⟩, fun c => absurd (by omega) c⟩⟩
  · have hfa := hfa (by omega)
    rw [w32_id (a := (f : Int) - (a : Int)) (by omega) (by omega)]
    exact ⟨fun c => absurd c (by omega), fun _ => ⟨g, g, g, hq⟩⟩
  · rw [w32_id (a := (z : Int) - (a : Int)) (by omega) (by omega)]
    exact ⟨fun c => absurd c (by omega), fun _ => ⟨g, g, g, hq⟩⟩
theorem make_lp {t : Int} {d : Nat} {v : Mem} {Q : Int → Mem → Prop} {z need k tk : Nat} {mo : Int} (hz : z ≤ 4000) (h6 : v 15 6 = (z : Int)) (h7 : v 15 7 = (k : Int)) (h8 : v 15 8 = (tk : Int)) (h9 : v 15 9 = mo) (hk : k < 2000000000) (htk : tk + need < 2000000000) (h2 : 2 ≤ need) (hn : need ≤ 8000) : ∀ (r : Hp) (prev lo i : Nat), hok z lo r → CHN v prev r → (prev = 4000 ∨ prev + 2 ≤ lo) → 2 * i ≤ lo → (fit z need lo r = none → Q (-1) v) →
    (∀ a pr f : Nat, fit z need lo r = some a → lo ≤ a → a + need ≤ z → (pr = prev ∨ (lo ≤ pr ∧ pr < 4000)) → (f = 4000 ∨ (a < f ∧ f < 4000)) → a ≠ pr → CHN (mkM v a pr f need k tk mo) prev (hin need k lo r) → Q (a : Int) (mkM v a pr f need k tk mo)) → LL t (d + 2) 33 19 [(2, 15), (3, 0), (0, (need : Int)), (0, (lo : Int)), (0, v 16 prev), (0, (i : Int))] [] v Q := by
  intro r
  induction r with
  | nil =>
    intro prev lo i h q hp hi hq0 hq1
    have hl : lo ≤ z := h
    have hf : fit z need lo [] = (if lo + need ≤ z then some lo else none) := rfl
    rw [hf] at hq0 hq1
    rw [q.1]
    have out : LL t (d + 2) 33 69 [(2, 15), (3, 0), (0, (need : Int)), (0, (lo : Int)), (0, 4000), (3, 0)] [] v Q := by
      by_cases c : lo + need ≤ z
      · rw [if_pos c] at hq1
        refine ex69 (f := 4000) (pr := prev) hz h6 h7 h8 h9 hk htk h2 c (by omega) (fun x => absurd x (by omega)) (by omega) q.2 (hq1 lo prev 4000 rfl (Nat.le_refl _) c (Or.inl rfl) (Or.inl rfl) (by omega) ?_)
        obtain ⟨m1, m2, m3, m4, m5, m6⟩ := mk_a (v := v) (a := lo) (pr := prev) (f := 4000) (need := need) (k := k) (tk := tk) (mo := mo) (by omega) (by omega)
        exact ⟨m1, m2, m5, m6, m3, m4⟩
      · rw [if_neg c] at hq0
        have hq0 := hq0 rfl
        refine s_33_69 (d := d) ?_
        rw [h6]
        refine ⟨fun x => absurd x (by omega), fun _ => ⟨fun _ => ⟨fun x => absurd x (by omega), fun _ => ⟨fun x => absurd x (by omega), fun _ => ?_⟩⟩, fun _ => hq0⟩⟩
        rw [w32_id (a := (z : Int) - (lo : Int)) (by omega) (by omega)]
        exact ⟨fun _ => hq0, fun x => absurd (by omega) x⟩
    refine s_33_19 (d := d + 1) ⟨fun _ => ⟨fun _ => out, fun _ => ⟨fun x => absurd x (by omega), fun _ => out⟩⟩, fun _ => out⟩
  | cons b r ih =>
    intro prev lo i h q hp hi hq0 hq1
    have hb : b.1 + b.2.1 ≤ z := hok_le r _ h.2.2
    have hb1 := h.1
    have hb2 := h.2.1
    obtain ⟨q1, q2, q3, q4, q5⟩ := q
    have hf : fit z need lo (b :: r) = (if lo + need ≤ b.1 then some lo else fit z need (b.1 + b.2.1) r) := rfl
    have hi2 : hin need k lo (b :: r) = (if lo + need ≤ b.1 then (lo, need, k) :: b :: r else b :: hin need k (b.1 + b.2.1) r) := rfl
    rw [hf] at hq0 hq1
    rw [hi2] at hq1
    rw [q1]
    refine s_33_19 (d := d + 1) ?_
    rw [w32_id (a := (b.1 : Int) - (lo : Int)) (by omega) (by omega), Int.toNat_natCast, q3, wNat (k := b.1 + b.2.1) (a := (b.1 : Int) + (b.2.1 : Int)) (by omega) (by omega), wS (k := i) (m := 2001) (by omega) (by decide)]
    refine ⟨fun _ => ⟨fun x => absurd x (by omega), fun _ => ⟨fun _ => ⟨fun c => ?_, fun c => ?_⟩, fun x => absurd (by omega) x⟩⟩, fun x => absurd (by omega) x⟩
    · have cn : ¬ lo + need ≤ b.1 := by omega
      rw [if_neg cn] at hq0 hq1
      rw [if_neg cn] at hq1
      refine ih b.1 (b.1 + b.2.1) (i + 1) h.2.2 q5 (Or.inr (by omega)) (by omega) hq0 (fun a pr f e1 e2 e3 e4 e5 e6 e7 => ?_)
      refine hq1 a pr f e1 (by omega) e3 (Or.inr (by omega)) e5 e6 ⟨?_, ?_, ?_, ?_, e7⟩
      · rw [mk_16 (by omega) (by omega)]; exact q1
      · rw [mk_17 (by omega) (by omega)]; exact q2
      · rw [mk_18 (by omega)]; exact q3
      · rw [mk_20 (by omega)]; exact q4
    · have cp : lo + need ≤ b.1 := by omega
      rw [if_pos cp] at hq1
      rw [if_pos cp] at hq1
      refine ex69 (f := b.1) (pr := prev) hz h6 h7 h8 h9 hk htk h2 (by omega) (by omega) (fun _ => cp) (by omega) q2 (hq1 lo prev b.1 rfl (Nat.le_refl _) (by omega) (Or.inl rfl) (Or.inr (by omega)) (by omega) ?_)
      obtain ⟨m1, m2, m3, m4, m5, m6⟩ := mk_a (v := v) (a := lo) (pr := prev) (f := b.1) (need := need) (k := k) (tk := tk) (mo := mo) (by omega) (by omega)
      refine ⟨m1, m2, m5, m6, m3, m4, ?_, ?_, ?_⟩
      · rw [mk_18 (by omega)]; exact q3
      · rw [mk_20 (by omega)]; exact q4
      · exact CHN_far hz r b.1 _ h.2.2 q5 (by omega) (by omega) (by omega) (Nat.le_refl _) (by omega)
/-- make: a block of n bytes -/
theorem make_rr {t : Int} {d : Nat} {v : Mem} {Q : Int → Mem → Prop} {z n k tk : Nat} {mo : Int} {H : Hp} (hz : z ≤ 4000) (h6 : v 15 6 = (z : Int)) (h7 : v 15 7 = (k : Int)) (h8 : v 15 8 = (tk : Int)) (h9 : v 15 9 = mo) (hk : k < 2000000000) (htk : tk + (n + 1) < 2000000000) (h2 : 1 ≤ n) (hn : n < 8000) (h : hok z 0 H) (q : CHN v 4000 H) (hq0 : fit z (n + 1) 0 H = none → Q (-1) v)
    (hq1 : ∀ a pr f : Nat, fit z (n + 1) 0 H = some a → a + (n + 1) ≤ z → pr ≤ 4000 → f ≤ 4000 → a ≠ pr → a ≠ f → CHN (mkM v a pr f (n + 1) k tk mo) 4000 (hin (n + 1) k 0 H) → Q (a : Int) (mkM v a pr f (n + 1) k tk mo)) : RR t (d + 2) 33 [(2, 15), (0, (n : Int))] v Q := by
  refine s_33 ?_
  rw [wNat (k := n + 1) (by omega) (by omega)]
  exact make_lp hz h6 h7 h8 h9 hk htk (by omega) (by omega) H 4000 0 0 h q (Or.inl rfl) (by omega) hq0 (fun a pr f e1 e2 e3 e4 e5 e6 e7 => hq1 a pr f e1 e3 (by omega) (by omega) e6 (by omega) e7)
