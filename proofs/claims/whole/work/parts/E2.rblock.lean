/-! The reference: a new block. -/
theorem pig : ∀ (m : Nat) (l : List Nat), (∀ k, k < m → k ∈ l) → m ≤ l.length := by
  intro m
  induction m with
  | zero => intro l _; exact Nat.zero_le _
  | succ m ih =>
    intro l h
    have h1 := h m (Nat.lt_succ_self _)
    have h2 := ih (l.erase m) (fun k hk => (List.mem_erase_of_ne (by omega)).mpr (h k (by omega)))
    rw [List.length_erase_of_mem h1] at h2
    have : 0 < l.length := List.length_pos_of_mem h1
    omega
theorem hok_len {z : Nat} : ∀ (H : Hp) (lo : Nat), hok z lo H → lo + 2 * H.length ≤ z := by
  intro H
  induction H with
  | nil => intro lo h; exact h
  | cons b r ih =>
    intro lo h
    have h1 := ih _ h.2.2
    have h2 := h.1
    have h3 := h.2.1
    show lo + 2 * (r.length + 1) ≤ z
    omega
/-- a block comes in -/
def jin (k need c : Nat) : Nat → Jb → Jb
  | lo, [] => [(k, lo, need, c)]
  | lo, j :: r => if lo + need ≤ j.2.1 then (k, lo, need, c) :: j :: r else j :: jin k need c (j.2.1 + j.2.2.1) r
theorem blk_jin {k need c : Nat} : ∀ (J : Jb) (lo : Nat), blk (jin k need c lo J) = hin need c lo (blk J) := by
  intro J
  induction J with
  | nil => intro lo; rfl
  | cons j r ih =>
    intro lo
    show blk (if lo + need ≤ j.2.1 then _ else _) = (if lo + need ≤ j.2.1 then _ else _)
    split
    · rfl
    · show j.2 :: blk (jin k need c (j.2.1 + j.2.2.1) r) = j.2 :: hin need c (j.2.1 + j.2.2.1) (blk r)
      rw [ih]
theorem mem_jin {k need c z a : Nat} {x : Nat × Nat × Nat × Nat} : ∀ (J : Jb) (lo : Nat), fit z need lo (blk J) = some a → (x ∈ jin k need c lo J ↔ x = (k, a, need, c) ∨ x ∈ J) := by
  intro J
  induction J with
  | nil =>
    intro lo h
    have h : (if lo + need ≤ z then some lo else none) = some a := h
    split at h
    · cases h
      show x ∈ [_] ↔ _
      rw [List.mem_singleton]
      exact ⟨fun e => Or.inl e, fun e => e.elim (fun e => e) (fun e => by cases e)⟩
    · cases h
  | cons j r ih =>
    intro lo h
    have h : (if lo + need ≤ j.2.1 then some lo else fit z need (j.2.1 + j.2.2.1) (blk r)) = some a := h
    show x ∈ (if lo + need ≤ j.2.1 then _ else _) ↔ _
    by_cases c0 : lo + need ≤ j.2.1
    · rw [if_pos c0] at h
      rw [if_pos c0]
      cases h
      exact List.mem_cons
    · rw [if_neg c0] at h
      rw [if_neg c0, List.mem_cons, ih _ h, List.mem_cons]
      constructor
      · rintro (e | e | e)
        · exact Or.inr (Or.inl e)
        · exact Or.inl e
        · exact Or.inr (Or.inr e)
      · rintro (e | e | e)
        · exact Or.inr (Or.inl e)
        · exact Or.inl e
        · exact Or.inr (Or.inr e)
theorem bs_free {t : Int} {d : Nat} {w : Mem} {Q : Int → Mem → Prop} {z m lo : Nat} (hz : w 38 65 = (z : Int)) (hz4 : z ≤ 4000) (hm : m ≤ 8000) : ∀ (s f : Nat), f + s ≤ m + 1 → lo + f + s ≤ z → (∀ p, lo + f ≤ p → p < lo + f + s → w 78 p = -1) → LL t d 233 8 [(2, 38), (0, (m : Int)), (0, ((f + s : Nat) : Int)), (0, ((lo + f + s : Nat) : Int)), (3, 0), (3, 0)] [] w Q → LL t d 233 8 [(2, 38), (0, (m : Int)), (0, (f : Int)), (0, ((lo + f : Nat) : Int)), (3, 0), (3, 0)] [] w Q := by
  intro s
  induction s with
  | zero => intro f _ _ _ h; exact h
  | succ s ih =>
    intro f h1 h2 h3 h
    have em : w32 ((m : Int) + 1) = ((m + 1 : Nat) : Int) := wNat (by omega) (by omega)
    refine w_233_8 ?_
    rw [em, hz, Int.toNat_natCast, h3 (lo + f) (by omega) (by omega), wNat (k := f + 1) (a := (f : Int) + 1) (by omega) (by omega), wNat (k := lo + (f + 1)) (a := ((lo + f : Nat) : Int) + 1) (by omega) (by omega)]
    refine ⟨fun _ => ⟨fun _ => ⟨⟨by omega, by omega⟩, fun _ => ih (f + 1) (by omega) (by omega) (fun p p1 p2 => h3 p (by omega) (by omega)) ?_, fun c => absurd (by decide) c⟩, fun c => absurd (by omega) c⟩, fun c => absurd (by omega) c⟩
    rw [show f + 1 + s = f + (s + 1) from by omega, show lo + (f + 1) + s = lo + f + (s + 1) from by omega]
    exact h
theorem bs_tak {t : Int} {d : Nat} {w : Mem} {Q : Int → Mem → Prop} {z m : Nat} (hz : w 38 65 = (z : Int)) (hz4 : z ≤ 4000) (hm : m ≤ 8000) : ∀ (s p f : Nat), f < m + 1 → p + (s + 1) ≤ z → (∀ q, p ≤ q → q < p + (s + 1) → 0 ≤ w 78 q) → LL t d 233 8 [(2, 38), (0, (m : Int)), (0, ((0 : Nat) : Int)), (0, ((p + (s + 1) : Nat) : Int)), (3, 0), (3, 0)] [] w Q → LL t d 233 8 [(2, 38), (0, (m : Int)), (0, (f : Int)), (0, (p : Int)), (3, 0), (3, 0)] [] w Q := by
  intro s
  induction s with
  | zero =>
    intro p f h1 h2 h3 h
    have em : w32 ((m : Int) + 1) = ((m + 1 : Nat) : Int) := wNat (by omega) (by omega)
    refine w_233_8 ?_
    rw [em, hz, Int.toNat_natCast, wNat (k := p + 1) (a := (p : Int) + 1) (by omega) (by omega)]
    exact ⟨fun _ => ⟨fun _ => ⟨⟨by omega, by omega⟩, fun c => absurd c (by have := h3 p (by omega) (by omega); omega), fun _ => h⟩, fun c => absurd (by omega) c⟩, fun c => absurd (by omega) c⟩
  | succ s ih =>
    intro p f h1 h2 h3 h
    have em : w32 ((m : Int) + 1) = ((m + 1 : Nat) : Int) := wNat (by omega) (by omega)
    refine w_233_8 ?_
    rw [em, hz, Int.toNat_natCast, wNat (k := p + 1) (a := (p : Int) + 1) (by omega) (by omega)]
    refine ⟨fun _ => ⟨fun _ => ⟨⟨by omega, by omega⟩, fun c => absurd c (by have := h3 p (by omega) (by omega); omega), fun _ => ih (p + 1) 0 (by omega) (by omega) (fun q q1 q2 => h3 q (by omega) (by omega)) ?_⟩, fun c => absurd (by omega) c⟩, fun c => absurd (by omega) c⟩
    rw [show p + 1 + (s + 1) = p + (s + 1 + 1) from by omega]
    exact h
theorem bs_ex {t : Int} {d : Nat} {w : Mem} {Q : Int → Mem → Prop} {z m p : Nat} (hz : w 38 65 = (z : Int)) (hm : m ≤ 8000) (h : LL t d 233 63 [(2, 38), (0, (m : Int)), (3, 0), (0, (p : Int)), (0, 0), (3, 0)] [] w Q) : LL t d 233 8 [(2, 38), (0, (m : Int)), (0, ((m + 1 : Nat) : Int)), (0, (p : Int)), (3, 0), (3, 0)] [] w Q := by
  have em : w32 ((m : Int) + 1) = ((m + 1 : Nat) : Int) := wNat (by omega) (by omega)
  refine w_233_8 ?_
  rw [em]
  exact ⟨fun _ => ⟨fun c => absurd c (by omega), fun _ => ⟨fun c => absurd c (by omega), fun _ => h⟩⟩, fun _ => ⟨fun c => absurd c (by omega), fun _ => h⟩⟩
theorem bs_no {t : Int} {d : Nat} {w : Mem} {Q : Int → Mem → Prop} {z m f : Nat} (hz : w 38 65 = (z : Int)) (hm : m ≤ 8000) (hf : f < m + 1) (h : Q (-1) (up w 38 66 2)) : LL t d 233 8 [(2, 38), (0, (m : Int)), (0, (f : Int)), (0, (z : Int)), (3, 0), (3, 0)] [] w Q := by
  have em : w32 ((m : Int) + 1) = ((m + 1 : Nat) : Int) := wNat (by omega) (by omega)
  refine w_233_8 ?_
  rw [em, hz]
  exact ⟨fun c => absurd c (by omega), fun _ => ⟨fun _ => h, fun c => absurd (by omega) c⟩⟩
/-- the lowest places that are enough -/
theorem bs_all {t : Int} {d : Nat} {w : Mem} {Q : Int → Mem → Prop} {z m : Nat} (hz : w 38 65 = (z : Int)) (hz4 : z ≤ 4000) (hm : m ≤ 8000) : ∀ (r : Jb) (lo : Nat), hok z lo (blk r) → (∀ j ∈ r, ∀ p, j.2.1 ≤ p → p < j.2.1 + j.2.2.1 → 0 ≤ w 78 p) → (∀ p, lo ≤ p → p < z → (∀ j ∈ r, ¬ (j.2.1 ≤ p ∧ p < j.2.1 + j.2.2.1)) → w 78 p = -1) → (fit z (m + 1) lo (blk r) = none → Q (-1) (up w 38 66 2)) → (∀ a, fit z (m + 1) lo (blk r) = some a → LL t d 233 63 [(2, 38), (0, (m : Int)), (3, 0), (0, ((a + (m + 1) : Nat) : Int)), (0, 0), (3, 0)] [] w Q) → LL t d 233 8 [(2, 38), (0, (m : Int)), (0, ((0 : Nat) : Int)), (0, (lo : Int)), (3, 0), (3, 0)] [] w Q := by
  intro r
  induction r with
  | nil =>
    intro lo hk h1 h2 hq0 hq1
    have hk : lo ≤ z := hk
    have ef : fit z (m + 1) lo (blk []) = (if lo + (m + 1) ≤ z then some lo else none) := rfl
    rw [ef] at hq0 hq1
    have fr : ∀ p, lo ≤ p → p < z → w 78 p = -1 := fun p p1 p2 => h2 p p1 p2 (fun j hj => absurd hj (List.not_mem_nil))
    by_cases c : lo + (m + 1) ≤ z
    · rw [if_pos c] at hq1
      refine bs_free (lo := lo) hz hz4 hm (m + 1) 0 (by omega) (by omega) (fun p p1 p2 => fr p (by omega) (by omega)) ?_
      rw [Nat.zero_add]
      exact bs_ex hz hm (hq1 lo rfl)
    · rw [if_neg c] at hq0
      refine bs_free (lo := lo) hz hz4 hm (z - lo) 0 (by omega) (by omega) (fun p p1 p2 => fr p (by omega) (by omega)) ?_
      rw [show lo + 0 + (z - lo) = z from by omega]
      exact bs_no hz hm (by omega) (hq0 rfl)
  | cons j r ih =>
    intro lo hk h1 h2 hq0 hq1
    have k1 : lo ≤ j.2.1 := hk.1
    have k2 : 2 ≤ j.2.2.1 := hk.2.1
    have k3 : hok z (j.2.1 + j.2.2.1) (blk r) := hk.2.2
    have k4 := hok_le _ _ k3
    have ef : fit z (m + 1) lo (blk (j :: r)) = (if lo + (m + 1) ≤ j.2.1 then some lo else fit z (m + 1) (j.2.1 + j.2.2.1) (blk r)) := rfl
    rw [ef] at hq0 hq1
    have fr : ∀ p, lo ≤ p → p < j.2.1 → w 78 p = -1 := fun p p1 p2 => h2 p p1 (by omega) (fun i hi q => by
      rcases List.mem_cons.mp hi with e | e
      · rw [e] at q; omega
      · have := hok_in _ _ k3 (mem_blk e)
        omega)
    by_cases c : lo + (m + 1) ≤ j.2.1
    · rw [if_pos c] at hq1
      refine bs_free (lo := lo) hz hz4 hm (m + 1) 0 (by omega) (by omega) (fun p p1 p2 => fr p (by omega) (by omega)) ?_
      rw [Nat.zero_add]
      exact bs_ex hz hm (hq1 lo rfl)
    · rw [if_neg c] at hq0 hq1
      refine bs_free (lo := lo) hz hz4 hm (j.2.1 - lo) 0 (by omega) (by omega) (fun p p1 p2 => fr p (by omega) (by omega)) ?_
      rw [show lo + 0 + (j.2.1 - lo) = j.2.1 from by omega]
      refine bs_tak hz hz4 hm (j.2.2.1 - 1) j.2.1 _ (by omega) (by omega) (fun q q1 q2 => h1 j List.mem_cons_self q q1 (by omega)) ?_
      rw [show j.2.1 + (j.2.2.1 - 1 + 1) = j.2.1 + j.2.2.1 from by omega]
      refine ih _ k3 (fun i hi => h1 i (List.mem_cons_of_mem _ hi)) (fun p p1 p2 hn => h2 p (by omega) p2 (fun i hi q => ?_)) hq0 hq1
      rcases List.mem_cons.mp hi with e | e
      · rw [e] at q; omega
      · exact hn i e q
/-- a block was made: its bytes are to come -/
def RMd (v0 : Mem) (n z dp : Nat) (J : Jb) (FS : List Fr) (ρ : Rho) (m : Nat) (v : Mem) : Prop := RHb v z J ∧ blk J = hin (m + 1) (rK ρ) 0 (rH ρ) ∧ RSt v n J (tmps FS) ∧ RLo v n J 0 FS ∧ RNu v 0 dp FS.length (rH ρ, rB ρ, rT ρ, rN ρ, rK ρ + 1, max (rM ρ) (hsum (rH ρ) + (m + 1))) ∧ RBy v ρ ∧ RFx v0 v
/-- what making a block changes -/
def BKf (v w : Mem) : Prop := (∀ c, c ≠ 38 → (c < 73 ∨ c = 77 ∨ 78 < c) → w c = v c) ∧ ∀ k, (k < 66 ∨ k = 67 ∨ k = 68 ∨ k = 72 ∨ 74 < k) → w 38 k = v 38 k
theorem rrw.sub {J J' : Jb} {n : Nat} {r : Rw} {ty x y w : Int} (h : rrw J n r ty x y w) (hm : ∀ j ∈ J, j ∈ J') : rrw J' n r ty x y w := h.mono (fun j hj _ => hm j hj)
theorem RLo.sub {v v' : Mem} {n : Nat} {J J' : Jb} (hm : ∀ j ∈ J, j ∈ J') (h4 : ∀ c, (c = 69 ∨ c = 70 ∨ c = 71 ∨ c = 72 ∨ c = 80) → v' c = v c) : ∀ (FS : List Fr) (f : Nat), RLo v n J f FS → RLo v' n J' f FS := by
  intro FS
  induction FS with
  | nil => intro f _; trivial
  | cons x r ih =>
    intro f h
    refine ⟨⟨by rw [h4 72 (by omega)]; exact h.1.1, h.1.2.1, fun k hk => ?_⟩, ih _ h.2⟩
    rw [h4 69 (by omega), h4 70 (by omega), h4 71 (by omega), h4 80 (by omega)]
    exact ⟨(h.1.2.2 k hk).1.sub hm, (h.1.2.2 k hk).2⟩
/-- the block stands in the reference's rows -/
theorem RX.make {v0 v v' : Mem} {n z dp m a k : Nat} {J : Jb} {FS : List Fr} {ρ : Rho} (h : RX v0 n z dp 0 J FS ρ v) (hb : blk J = rH ρ) (hf : fit z (m + 1) 0 (rH ρ) = some a) (hm : 1 ≤ m) (hk : k < 2001) (hkn : ∀ j ∈ J, j.1 ≠ k)
    (b73 : v' 73 k = (a : Int)) (b74 : v' 74 k = ((m + 1 : Nat) : Int)) (b75 : v' 75 k = ((rK ρ : Nat) : Int)) (bo : ∀ c x, (c = 73 ∨ c = 74 ∨ c = 75) → x ≠ k → v' c x = v c x) (ho : ∀ p, a ≤ p → p < a + (m + 1) → v' 78 p = (k : Int)) (ho2 : ∀ p, ¬ (a ≤ p ∧ p < a + (m + 1)) → v' 78 p = v 78 p)
    (e74 : v' 38 74 = (if v 38 74 < ((k + 1 : Nat) : Int) then ((k + 1 : Nat) : Int) else v 38 74)) (e73 : v' 38 73 = v 38 73 + ((m + 1 : Nat) : Int)) (e70 : v' 38 70 = (if v 38 70 < v 38 73 + ((m + 1 : Nat) : Int) then v 38 73 + ((m + 1 : Nat) : Int) else v 38 70)) (e69 : v' 38 69 = v 38 69 + 1)
    (hc : ∀ c, c ≠ 38 → (c < 73 ∨ c = 77 ∨ 78 < c) → v' c = v c) (hkk : ∀ k, (k < 69 ∨ k = 71 ∨ k = 72 ∨ 74 < k) → v' 38 k = v 38 k) : RMd v0 n z dp (jin k (m + 1) (rK ρ) 0 J) FS ρ m v' := by
  obtain ⟨a1, a2, a3, a4, a5, a6, a7⟩ := h
  have hf2 := hf
  rw [← hb] at hf2
  have mj : ∀ x, x ∈ jin k (m + 1) (rK ρ) 0 J ↔ x = (k, a, m + 1, rK ρ) ∨ x ∈ J := fun x => mem_jin J 0 hf2
  have hbj := blk_jin (k := k) (need := m + 1) (c := rK ρ) J 0
  have hok2 := hok_hin (k := rK ρ) (by omega) _ 0 a1.1.1 hf2
  have hsm := hsum_hin (need := m + 1) (k := rK ρ) (blk J) 0
  have hle := hsum_le _ 0 hok2
  have ff := fit_free (by omega) _ 0 a1.1.1 hf2
  have inz := hok_in _ _ hok2 (mem_hin (k := rK ρ) _ 0 hf2).1
  have inz : 0 ≤ a ∧ 2 ≤ m + 1 ∧ a + (m + 1) ≤ z := inz
  have hz4 := a1.1.2.2.1
  obtain ⟨⟨c1, c2, c3, c4⟩, ⟨hg, c5, c5', c5''⟩, c6, c7, c8, c9⟩ := a1
  have sub : ∀ j ∈ J, j ∈ jin k (m + 1) (rK ρ) 0 J := fun j hj => (mj j).mpr (Or.inr hj)
  refine ⟨⟨⟨by rw [hbj]; exact hok2, by rw [hkk 65 (by omega)]; exact c2, c3, ?_⟩, ?_, fun j hj => ?_, fun x hx hn => ?_, fun j hj p p1 p2 => ?_, fun p hp hn => ?_⟩, by rw [hbj, hb], ⟨by rw [hkk 52 (by omega)]; exact a3.1, a3.2.1, fun i hi => ?_⟩, RLo.sub sub (fun c hc' => hc c (by omega) (by omega)) _ _ a4, ?_, fun b hb' j hj => ?_, a7.trans (fun c q1 q2 => hc c q2 (by omega)) (fun k hk' => hkk k (by omega))⟩
  · rw [e73, c4, hbj, hsm]
    omega
  · by_cases cc : v 38 74 < ((k + 1 : Nat) : Int)
    · rw [if_pos cc] at e74
      refine ⟨k + 1, e74, by omega, fun j hj => ?_⟩
      rcases (mj j).mp hj with e | e
      · rw [e]; exact Nat.lt_succ_self _
      · have := c5'' j e; omega
    · rw [if_neg cc] at e74
      refine ⟨hg, by rw [e74]; exact c5, c5', fun j hj => ?_⟩
      rcases (mj j).mp hj with e | e
      · rw [e]; show k < hg; omega
      · exact c5'' j e
  · rcases (mj j).mp hj with e | e
    · rw [e]; exact ⟨b73, b74, b75⟩
    · have := hkn j e
      rw [bo 73 _ (by omega) this, bo 74 _ (by omega) this, bo 75 _ (by omega) this]
      exact c6 j e
  · have hxk : x ≠ k := fun e => hn (k, a, m + 1, rK ρ) ((mj _).mpr (Or.inl rfl)) e.symm
    rw [bo 73 x (by omega) hxk]
    exact c7 x hx (fun j hj => hn j (sub j hj))
  · rcases (mj j).mp hj with e | e
    · rw [e] at p1 p2 ⊢
      exact ho p p1 p2
    · rw [ho2 p (fun q => by
        have := ff.2 j.2 (mem_blk e)
        omega)]
      exact c8 j e p p1 p2
  · rw [ho2 p (fun q => hn (k, a, m + 1, rK ρ) ((mj _).mpr (Or.inl rfl)) q)]
    exact c9 p hp (fun j hj => hn j (sub j hj))
  · rw [hc 66 (by decide) (by omega), hc 67 (by decide) (by omega), hc 68 (by decide) (by omega)]
    exact (a3.2.2 i hi).sub sub
  · obtain ⟨q1, q2, ⟨q3, q4, q5, q6⟩, ⟨q7, q8, q9⟩, q10⟩ := a5
    have hsH : hsum (rH ρ) = hsum (blk J) := by rw [hb]
    refine ⟨by rw [hkk 57 (by omega), hkk 58 (by omega)]; exact q1, by rw [hkk 66 (by omega), hkk 67 (by omega), hkk 78 (by omega)]; exact q2, ⟨by rw [hkk 68 (by omega)]; exact q3, ?_, ?_, by rw [hkk 72 (by omega)]; exact q6⟩, ⟨q7, ?_, q9⟩, by rw [hc 79 (by decide) (by omega)]; exact q10⟩
    · rw [e69, q4]; show ((rK ρ : Nat) : Int) + 1 = ((rK ρ + 1 : Nat) : Int); omega
    · rw [e70, c4, q5]
      show _ = ((max (rM ρ) (hsum (rH ρ) + (m + 1)) : Nat) : Int)
      rw [hsH]
      split <;> omega
    · show max (rM ρ) (hsum (rH ρ) + (m + 1)) ≤ 4000
      rw [hsH]
      omega
  · rw [hc 77 (by decide) (by omega)]
    exact a6 b hb' j hj
/-- the places of the new block are its own -/
theorem bs_own {t : Int} {d : Nat} {v : Mem} {Q : Int → Mem → Prop} {m a k : Nat} (hz : a + (m + 1) ≤ 4000) (hk : k < 2001) (hq : ∀ w, (∀ c, c ≠ 78 → w c = v c) → (∀ p, a ≤ p → p < a + (m + 1) → w 78 p = (k : Int)) → (∀ p, ¬ (a ≤ p ∧ p < a + (m + 1)) → w 78 p = v 78 p) → Q (k : Int) (up (up (up w 38 74 (f_275 (w 38 74) (w32 ((k : Int) + 1)) w)) 38 73 (w32 ((w 38 73) + (w32 ((m : Int) + 1))))) 38 70 (f_275 (w 38 70) (w32 ((w 38 73) + (w32 ((m : Int) + 1)))) (up (up w 38 74 (f_275 (w 38 74) (w32 ((k : Int) + 1)) w)) 38 73 (w32 ((w 38 73) + (w32 ((m : Int) + 1)))))))) : ∀ (s i : Nat) (w : Mem), i + s = m + 1 → (∀ c, c ≠ 78 → w c = v c) → (∀ p, a ≤ p → p < a + i → w 78 p = (k : Int)) → (∀ p, ¬ (a ≤ p ∧ p < a + i) → w 78 p = v 78 p) → LL t (d + 1) 233 131 [(2, 38), (0, (m : Int)), (3, 0), (0, ((a + (m + 1) : Nat) : Int)), (0, (k : Int)), (0, ((a + i : Nat) : Int))] [] w Q := by
  intro s
  induction s with
  | zero =>
    intro i w hi hw h1 h2
    have hi : i = m + 1 := by omega
    subst hi
    exact s_233_131 ⟨fun c => absurd c (by omega), fun _ => hq w hw h1 h2⟩
  | succ s ih =>
    intro i w hi hw h1 h2
    refine s_233_131 ⟨fun _ => ⟨⟨by omega, by omega⟩, ?_⟩, fun c => absurd (by omega) c⟩
    rw [Int.toNat_natCast, wNat (k := a + (i + 1)) (a := ((a + i : Nat) : Int) + 1) (by omega) (by omega)]
    refine ih (i + 1) _ (by omega) (fun c hc => by rw [up_ne hc]; exact hw c hc) (fun p p1 p2 => ?_) (fun p hp => ?_)
    · by_cases e : p = a + i
      · rw [e, up_k]
      · rw [up_nk e]; exact h1 p p1 (by omega)
    · rw [up_nk (by omega)]
      exact h2 p (by omega)
/-- a row that is free -/
theorem bs_row {t : Int} {d : Nat} {w : Mem} {Q : Int → Mem → Prop} {m p z : Nat} {J : Jb} (hH : RHb w z J) (hq : ∀ k, k < 2001 → (∀ j ∈ J, j.1 ≠ k) → LL t d 233 131 [(2, 38), (0, (m : Int)), (3, 0), (0, (p : Int)), (0, (k : Int)), (0, (up w 73 k (w32 ((w32 ((p : Int) - (m : Int))) - 1)) 73 k))] [] (up (up (up (up w 73 k (w32 ((w32 ((p : Int) - (m : Int))) - 1))) 74 k (w32 ((m : Int) + 1))) 75 k (w 38 69)) 38 69 (w32 ((w 38 69) + 1))) Q) : ∀ (s k : Nat), k + s = 2001 → (∀ i, i < k → ∃ j ∈ J, j.1 = i) → LL t d 233 63 [(2, 38), (0, (m : Int)), (3, 0), (0, (p : Int)), (0, (k : Int)), (3, 0)] [] w Q := by
  intro s
  induction s with
  | zero =>
    intro k hk h
    have h1 := pig 2001 (J.map (fun j => j.1)) (fun i hi => by
      obtain ⟨j, hj, e⟩ := h i (by omega)
      exact List.mem_map.mpr ⟨j, hj, e⟩)
    rw [List.length_map] at h1
    have h2 := hok_len _ _ hH.1.1
    have h3 : (blk J).length = J.length := List.length_map ..
    have h4 := hH.1.2.2.1
    omega
  | succ s ih =>
    intro k hk h
    refine w_233_63 ⟨⟨by omega, by omega⟩, ?_⟩
    rw [Int.toNat_natCast]
    by_cases ex : ∃ j ∈ J, j.1 = k
    · obtain ⟨j, hj, ej⟩ := ex
      refine ⟨fun c => absurd c (by rw [← ej, (hH.2.2.1 j hj).1]; omega), fun _ => ?_⟩
      rw [wS (k := k) (m := 2001) (by omega) (by decide)]
      refine ih (k + 1) (by omega) (fun i hi => ?_)
      by_cases e : i = k
      · exact ⟨j, hj, by omega⟩
      · exact h i (by omega)
    · have hn : ∀ j ∈ J, j.1 ≠ k := fun j hj e => ex ⟨j, hj, e⟩
      exact ⟨fun _ => ⟨⟨by omega, by omega⟩, ⟨by omega, by omega⟩, ⟨by omega, by omega⟩, ⟨by omega, by omega⟩, hq k (by omega) hn⟩, fun c => absurd (by rw [hH.2.2.2.1 k (by omega) hn]; decide) c⟩
theorem wm1 {k : Nat} (h : k < 2000000000) : w32 ((k : Int) + 1) = ((k + 1 : Nat) : Int) := wNat (by omega) (by omega)
theorem wsub1 {a m : Nat} (h : a + (m + 1) ≤ 4000) : w32 ((w32 (((a + (m + 1) : Nat) : Int) - (m : Int))) - 1) = (a : Int) := by
  rw [wNat (k := a + 1) (a := ((a + (m + 1) : Nat) : Int) - (m : Int)) (by omega) (by omega)]
  exact wNat (by omega) (by omega)
theorem wadd {a b : Nat} (h : a + b < 2000000000) : w32 ((a : Int) + (b : Int)) = (a : Int) + (b : Int) := w32_id (by omega) (by omega)
/-- THE REFERENCE MAKES A BLOCK -/
theorem block_rr {t : Int} {d : Nat} {Q : Int → Mem → Prop} {v0 v : Mem} {n z dp m : Nat} {J : Jb} {FS : List Fr} {ρ : Rho} (h : RX v0 n z dp 0 J FS ρ v) (hm : 1 ≤ m) (hm2 : m ≤ 8000) (hK : rK ρ < 2000000)
    (h1 : fit z (m + 1) 0 (rH ρ) = none → ∀ J' v', RX v0 n z dp 2 J' FS ρ v' → Q (-1) v')
    (h2 : ∀ a, fit z (m + 1) 0 (rH ρ) = some a → ∀ J' (k : Nat) v', RMd v0 n z dp J' FS ρ m v' → (k, a, m + 1, rK ρ) ∈ J' → BKf v v' → Q (k : Int) v') : RR t (d + 1) 233 [(2, 38), (0, (m : Int))] v Q := by
  refine w_233 (sweep_rr h (fun J1 v1 r1 b1 f1 => ?_))
  have hH := r1.1
  have hz := hH.1.2.1
  have hz4 := hH.1.2.2.1
  refine bs_all hz hz4 hm2 J1 0 hH.1.1 (fun j hj p p1 p2 => by rw [hH.2.2.2.2.1 j hj p p1 p2]; omega) (fun p p1 p2 hn => hH.2.2.2.2.2 p (by omega) hn) (fun e => h1 (by rw [← b1]; exact e) J1 _ ?_) (fun a e => ?_)
  · obtain ⟨a1, a2, a3, a4, a5, a6, a7⟩ := r1
    obtain ⟨q1, ⟨q2, q2', q2''⟩, q3, q4, q5⟩ := a5
    refine ⟨a1.same (up_nk (by decide)) (up_nk (by decide)) (up_nk (by decide)) (fun c hc => up_ne (by omega)), a2, a3.same (up_nk (by decide)) (fun c hc => up_ne (by omega)), RLo.same (fun c hc => up_ne (by omega)) _ _ a4, ⟨?_, ⟨up_k, ?_, ?_⟩, ?_, q4, ?_⟩, fun b hb j hj => ?_, a7.trans (fun c _ c2 => up_ne c2) (fun k hk => up_nk (by omega))⟩
    · rw [up_nk (by decide), up_nk (by decide)]; exact q1
    · rw [up_nk (by decide)]; exact q2'
    · rw [up_nk (by decide)]; exact q2''
    · rw [up_nk (by decide), up_nk (by decide), up_nk (by decide), up_nk (by decide)]; exact q3
    · rw [up_ne (by decide)]; exact q5
    · rw [up_ne (by decide)]; exact a6 b hb j hj
  · have e' := e
    rw [b1] at e'
    have hok2 := hok_hin (k := rK ρ) (by omega) _ 0 hH.1.1 e
    have inz := hok_in _ _ hok2 (mem_hin (k := rK ρ) _ 0 e).1
    have inz : 0 ≤ a ∧ 2 ≤ m + 1 ∧ a + (m + 1) ≤ z := inz
    have hsm := hsum_hin (need := m + 1) (k := rK ρ) (blk J1) 0
    have hle := hsum_le _ 0 hok2
    refine bs_row hH (fun k hk hkn => ?_) 2001 0 (by omega) (fun i hi => absurd hi (Nat.not_lt_zero _))
    have e69 : v1 38 69 = ((rK ρ : Nat) : Int) := r1.2.2.2.2.1.2.2.1.2.1
    rw [wsub1 (by omega), wm1 (by omega), e69, wm1 (by omega), up_k]
    refine bs_own (by omega) hk (fun w g1 g2 g3 => ?_) (m + 1) 0 _ (by omega) (fun _ _ => rfl) (fun p p1 p2 => absurd p2 (by omega)) (fun p _ => rfl)
    have e74 : w 38 74 = v1 38 74 := by rw [g1 38 (by decide), up_nk (by decide), up_ne (by decide), up_ne (by decide), up_ne (by decide)]
    have e73 : w 38 73 = v1 38 73 := by rw [g1 38 (by decide), up_nk (by decide), up_ne (by decide), up_ne (by decide), up_ne (by decide)]
    have e70 : w 38 70 = v1 38 70 := by rw [g1 38 (by decide), up_nk (by decide), up_ne (by decide), up_ne (by decide), up_ne (by decide)]
    have h73 := hH.1.2.2.2
    rw [e74, e73, e70, wm1 (k := k) (by omega), wm1 (k := m) (by omega), h73, wadd (by omega)]
    unfold f_275
    have rest : ∀ x, (x < 69 ∨ x = 71 ∨ x = 72 ∨ 74 < x) → w 38 x = v1 38 x := fun x hx => by rw [g1 38 (by decide), up_nk (by omega), up_ne (by decide), up_ne (by decide), up_ne (by decide)]
    have oth : ∀ c, c ≠ 38 → (c < 73 ∨ c = 77 ∨ 78 < c) → w c = v1 c := fun c c1 c2 => by rw [g1 c (by omega), up_ne c1, up_ne (by omega), up_ne (by omega), up_ne (by omega)]
    refine h2 a e' (jin k (m + 1) (rK ρ) 0 J1) k _ (RX.make r1 b1 e' hm hk hkn ?_ ?_ ?_ (fun c x hc hx => ?_) (fun p p1 p2 => ?_) (fun p hp => ?_) ?_ ?_ ?_ ?_ (fun c c1 c2 => ?_) (fun x hx => ?_)) ((mem_jin J1 0 e).mpr (Or.inl rfl)) ⟨fun c c1 c2 => ?_, fun x hx => ?_⟩
    · rw [up_ne (by decide), up_ne (by decide), up_ne (by decide), g1 73 (by decide), up_ne (by decide), up_ne (by decide), up_ne (by decide), up_k]
    · rw [up_ne (by decide), up_ne (by decide), up_ne (by decide), g1 74 (by decide), up_ne (by decide), up_ne (by decide), up_k]
    · rw [up_ne (by decide), up_ne (by decide), up_ne (by decide), g1 75 (by decide), up_ne (by decide), up_k]
    · rw [up_ne (by omega), up_ne (by omega), up_ne (by omega), g1 c (by omega), up_ne (by omega)]
      rcases hc with e | e | e
      · subst e; rw [up_ne (by decide), up_ne (by decide), up_nk hx]
      · subst e; rw [up_ne (by decide), up_nk hx, up_ne (by decide)]
      · subst e; rw [up_nk hx, up_ne (by decide), up_ne (by decide)]
    · rw [up_ne (by decide), up_ne (by decide), up_ne (by decide)]; exact g2 p p1 p2
    · rw [up_ne (by decide), up_ne (by decide), up_ne (by decide), g3 p hp, up_ne (by decide), up_ne (by decide), up_ne (by decide), up_ne (by decide)]
    · rw [up_nk (by decide), up_nk (by decide), up_k]
    · rw [up_nk (by decide), up_k, h73]
    · rw [up_k, h73]
    · rw [up_nk (by decide), up_nk (by decide), up_nk (by decide), g1 38 (by decide), up_k, e69]; omega
    · rw [up_ne c1, up_ne c1, up_ne c1]; exact oth c c1 c2
    · rw [up_nk (by omega), up_nk (by omega), up_nk (by omega)]; exact rest x hx
    · rw [up_ne c1, up_ne c1, up_ne c1, oth c c1 c2]
      exact f1.1 c c1 (by omega) (by omega) (by omega)
    · rw [up_nk (by omega), up_nk (by omega), up_nk (by omega), rest x (by omega)]
      exact f1.2 x (by omega) (by omega)
/-- the new block takes the place of the top rows T -/
theorem RMd.fin {v0 v v' : Mem} {n z dp m a k : Nat} {J : Jb} {P : List Fr} {Y X T : List TyR} {e : Nat} {ρ : Rho} {g : Nat → Int} (h : RMd v0 n z dp J (P ++ [(Y, e, X ++ T)]) ρ m v) (hk : (k, a, m + 1, rK ρ) ∈ J) (hf : fit z (m + 1) 0 (rH ρ) = some a) (ho : hok z 0 (rH ρ)) (hm : 1 ≤ m) (hl : (tmps (P ++ [(Y, e, X)])).length < 1500)
    (hg : ∀ j, j < m → v' 77 (a + j) = g j ∧ -128 ≤ g j ∧ g j < 128) (hg2 : ∀ p, ¬ (a ≤ p ∧ p < a + m) → v' 77 p = v 77 p)
    (h52 : v' 38 52 = (((tmps (P ++ [(Y, e, X)])).length + 1 : Nat) : Int)) (hk38 : ∀ k, k ≠ 52 → v' 38 k = v 38 k) (hc : ∀ c, c ≠ 38 → c ≠ 66 → c ≠ 67 → c ≠ 68 → c ≠ 77 → v' c = v c) (hlow : ∀ c i, (c = 66 ∨ c = 67 ∨ c = 68) → i < (tmps (P ++ [(Y, e, X)])).length → v' c i = v c i)
    (hx : v' 66 (tmps (P ++ [(Y, e, X)])).length = (k : Int)) (hy : v' 67 (tmps (P ++ [(Y, e, X)])).length = 0) (hw : v' 68 (tmps (P ++ [(Y, e, X)])).length = (m : Int)) :
    RX v0 n z dp 0 J (P ++ [(Y, e, X ++ [(((a : Int), ((3000 + a : Nat) : Int), (m : Int)), 1)])]) (mkR (flat (P ++ [(Y, e, X)])) m a g ρ) v' := by
  obtain ⟨a1, a2, a3, a4, a5, a6, a7⟩ := h
  have lenS : (P ++ [(Y, e, X ++ [((((a : Int), ((3000 + a : Nat) : Int), (m : Int)) : Rw), (1 : Int))])]).length = (P ++ [(Y, e, X ++ T)]).length := by rw [List.length_append, List.length_append]; rfl
  refine ⟨a1.same (hk38 _ (by decide)) (hk38 _ (by decide)) (hk38 _ (by decide)) (fun c hc' => hc c (by omega) (by omega) (by omega) (by omega) (by omega)), ?_, ⟨?_, ?_, fun i hi => ?_⟩, ?_, ?_, ?_, a7.trans (fun c c1 c2 => hc c c2 (by omega) (by omega) (by omega) (by omega)) (fun k hk' => hk38 k (by omega))⟩
  · rw [flat_T, a2]
    rfl
  · rw [h52, tmps_T, List.length_append]; rfl
  · rw [tmps_T, List.length_append]; show _ + 1 ≤ 1500; omega
  · rw [tmps_T, List.length_append] at hi
    have hi : i < (tmps (P ++ [(Y, e, X)])).length + 1 := hi
    rw [tmps_T]
    by_cases c : i = (tmps (P ++ [(Y, e, X)])).length
    · subst c
      have e0 := gdA (l := tmps (P ++ [(Y, e, X)])) (m := [((((a : Int), ((3000 + a : Nat) : Int), (m : Int)) : Rw), (1 : Int))]) (k := 0) (d := ((-1, 0, 0), 0))
      rw [Nat.add_zero] at e0
      rw [e0, hx, hy, hw]
      exact Or.inr (Or.inr (Or.inr ⟨rfl, _, hk, 0, m, rfl, hm, by show 0 + m + 1 ≤ m + 1; omega, rfl, rfl, rfl⟩))
    · rw [gd_app1 (by omega), hlow 66 i (by omega) (by omega), hlow 67 i (by omega) (by omega), hlow 68 i (by omega) (by omega)]
      have q := a3.2.2 i (by rw [tmps_T, List.length_append]; omega)
      rw [tmps_T, gd_app1 (by omega)] at q
      exact q
  · have a4 := (RLo_app _ _ _).mp a4
    refine (RLo_app _ _ _).mpr ⟨RLo.same (fun c hc' => hc c (by omega) (by omega) (by omega) (by omega) (by omega)) _ _ a4.1, ?_⟩
    exact ⟨a4.2.1.same (by rw [hc 72 (by decide) (by decide) (by decide) (by decide) (by decide)]) (fun c k hc' _ _ => by rw [hc c (by omega) (by omega) (by omega) (by omega) (by omega)]), trivial⟩
  · rw [lenS]
    exact a5.same (fun k hk' => hk38 k (by omega)) (hc 79 (by decide) (by decide) (by decide) (by decide) (by decide))
  · intro b hb' j hj
    have hb1 : b ∈ hin (m + 1) (rK ρ) 0 (rH ρ) := (gc_in.mp hb').1
    show v' 77 (b.1 + j) = setB (rB ρ) a m g (b.1 + j) ∧ -128 ≤ setB (rB ρ) a m g (b.1 + j) ∧ setB (rB ρ) a m g (b.1 + j) < 128
    unfold setB
    rcases mem_hin_inv _ 0 hf hb1 with e1 | e1
    · rw [e1] at hj ⊢
      have hj : j + 1 < m + 1 := hj
      rw [if_pos (show a ≤ a + j ∧ a + j < a + m from ⟨by omega, by omega⟩)]
      show v' 77 (a + j) = g (a + j - a) ∧ _
      rw [show a + j - a = j from by omega]
      exact hg j (by omega)
    · have ff := (fit_free (by omega) _ 0 ho hf).2 b e1
      rw [if_neg (show ¬ (a ≤ b.1 + j ∧ b.1 + j < a + m) from by omega), hg2 _ (by omega)]
      exact a6 b e1 j hj
