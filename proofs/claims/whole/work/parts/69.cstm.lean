/-! The class's walk over an S: its beginning and its end, S without BLOCKs. -/
theorem GS.room {s : Int} {v0 v : Mem} {u : Nat → Int} {n la i0 i st dp sc k : Nat} {G : Fn} {L : Sc} {a : Ac} {nf : List Nat} {tf : List Int} {mx : Nat} (h : GS s v0 v u n la i0 i st dp sc k G L a nf tf mx) (hs : s = 1) : v 8 3 + (k : Int) ≤ (ps u n i : Int) ∧ v 8 3 + (k : Int) ≤ 3000 := by
  have h1 := h.2.2.2.1 hs
  have hg := h.1.1
  have h2 := hg.psn i
  omega
theorem GS.less {s : Int} {v0 v : Mem} {u : Nat → Int} {n la i0 i st dp sc k k' : Nat} {G : Fn} {L : Sc} {a : Ac} {nf : List Nat} {tf : List Int} {mx : Nat} (h : GS s v0 v u n la i0 i st dp sc k G L a nf tf mx) (hk : k' ≤ k) : GS s v0 v u n la i0 i st dp sc k' G L a nf tf mx := ⟨h.1, h.2.1, h.2.2.1, fun hs => ⟨(h.2.2.2.1 hs).1, by have := (h.2.2.2.1 hs).2; omega⟩, h.2.2.2.2⟩
theorem GS.eq {s : Int} {v0 v : Mem} {u : Nat → Int} {n la i0 i st dp sc k : Nat} {G : Fn} {L : Sc} {a b : Ac} {nf nf' : List Nat} {tf tf' : List Int} {mx mx' : Nat} (h : GS s v0 v u n la i0 i st dp sc k G L a nf tf mx) (h1 : s = 1 → a = b) (h2 : s = 1 → nf = nf') (h3 : s = 1 → tf = tf') (h4 : s = 1 → mx = mx') : GS s v0 v u n la i0 i st dp sc k G L b nf' tf' mx' := ⟨h.1, h.2.1, h.2.2.1.eq h1 h2 h3, h.2.2.2.1, h.2.2.2.2.1, fun hs => by rw [← h4 hs]; exact h.2.2.2.2.2 hs⟩
theorem GS.pc {s : Int} {v0 v : Mem} {u : Nat → Int} {n la i0 i st dp sc k : Nat} {G : Fn} {L : Sc} {a : Ac} {nf : List Nat} {tf : List Int} {mx : Nat} (h : GS s v0 v u n la i0 i st dp sc k G L a nf tf mx) (hs : s = 1) : (v 8 3).toNat = (v0 8 3).toNat + a.length ∧ v 8 3 = ((v0 8 3).toNat + a.length : Nat) := by
  obtain ⟨pc, h1, h2, -⟩ := h.2.2.1.2 hs
  rw [h1, h2]
  exact ⟨by omega, by omega⟩
theorem GS.h8 {s : Int} {v0 v : Mem} {u : Nat → Int} {n la i0 i st dp sc k : Nat} {G : Fn} {L : Sc} {a : Ac} {nf : List Nat} {tf : List Int} {mx : Nat} (h : GS s v0 v u n la i0 i st dp sc k G L a nf tf mx) : ∃ c : Nat, v0 8 3 = c ∧ c ≤ 3100 := by
  have hg := h.1.1
  obtain ⟨c, hc, hc2⟩ := hg.pc
  rcases hg.2.1.2.2 with hs | hs
  · rw [← (h.2.2.1.1 hs).1]
    exact ⟨c, hc, hc2⟩
  · obtain ⟨pc, p1, p2, -⟩ := h.2.2.1.2 hs
    exact ⟨pc, p1, by rw [p2] at hc; omega⟩
/-- from what a walk has come to, a part of an E or so is read -/
theorem GS.sub {s : Int} {v0 v v' : Mem} {u : Nat → Int} {n la i0 i i' st dp sc sg nb k k' : Nat} {G : Fn} {L : Sc} {a a' : Ac} {nf nf' : List Nat} {tf tf' : List Int} {mx : Nat} (h : GS s v0 v u n la i0 i st dp sc k G L a nf tf mx) (h' : GO s v v' u n la i i' sg nb k' G L a' nf' tf') : GS s v0 v' u n la i0 i' st dp sc (k + k') G L (a ++ a') (nf ++ nf') (tf ++ tf') mx := by
  have e28 : v' 28 = v 28 := h'.2.1.1 28 (by omega) (by omega)
  refine ⟨⟨h'.1.to0, ?_, ?_, ?_⟩, h.2.1.trans (FrS.of h'.2.1), h.2.2.1.trans h'.2.2.1, fun hs => ⟨(h.2.2.2.1 hs).1, ?_⟩, Nat.le_trans h.2.2.2.2.1 h'.2.2.2.2, fun hs => by rw [e28]; exact h.2.2.2.2.2 hs⟩
  · rw [h'.2.1.2.1 12 (by omega)]; exact h.1.2.1
  · rw [h'.2.1.2.1 13 (by omega)]; exact h.1.2.2.1
  · rw [e28]; exact h.1.2.2.2
  · have h1 := (h.2.2.2.1 hs).2
    have h2 := (h'.2.2.2.1 hs).2
    omega
theorem GS.aim {s : Int} {v0 v : Mem} {u : Nat → Int} {n la i0 i st dp sc k : Nat} {G : Fn} {L : Sc} {a b : Ac} {x y z idx : Int} {nf : List Nat} {tf : List Int} {mx : Nat} (h : GS s v0 v u n la i0 i st dp sc k G L (a ++ (x, y, z) :: b) nf tf mx) (h1 : s = 1 → idx = ((v0 8 3).toNat + a.length : Nat)) (h0 : s = 0 → idx = -1) : GS s v0 (aimM idx v) u n la i0 i st dp sc k G L (a ++ (x, (((v0 8 3).toNat + a.length + 1 + b.length : Nat) : Int), z) :: b) nf tf mx := by
  have e : aimM idx v 22 = v 22 := aim_cell (by decide)
  have e28 : aimM idx v 28 = v 28 := aim_cell (by decide)
  obtain ⟨hg, a1, a2, a3⟩ := h.1
  refine ⟨⟨hg.fr FrE.aim (hg.1.aim idx), by rw [e]; exact a1, by rw [e]; exact a2, by rw [e28]; exact a3⟩, h.2.1.trans (FrS.of FrE.aim), h.2.2.1.aim h1 h0, fun hs => ?_, h.2.2.2.2.1, fun hs => by rw [e28]; exact h.2.2.2.2.2 hs⟩
  rw [aim_cell (by decide)]
  exact h.2.2.2.1 hs
theorem GS.act {s : Int} {v0 v : Mem} {u : Nat → Int} {n la i0 i st dp sc k : Nat} {G : Fn} {L : Sc} {a : Ac} {nf : List Nat} {tf : List Int} {mx : Nat} (h : GS s v0 v u n la i0 i st dp sc (k + 1) G L a nf tf mx) (x y z : Int) (hx : 0 ≤ x ∧ x < 128) : GS s v0 (m_10 x y z v) u n la i0 i st dp sc k G L (a ++ [(x, y, z)]) nf tf mx ∧ (s = 1 → f_10 x y z v = ((v0 8 3).toNat + a.length : Nat)) ∧ (s = 0 → f_10 x y z v = -1) := by
  have hg := h.1.1
  obtain ⟨h1, h2, h3, h4⟩ := hg.act x y z hx (fun hs => by have := (h.room hs).2; omega)
  have e22 : m_10 x y z v 22 = v 22 := act_cell (by omega)
  have e28 : m_10 x y z v 28 = v 28 := act_cell (by omega)
  refine ⟨⟨⟨h1, by rw [e22]; exact h.1.2.1, by rw [e22]; exact h.1.2.2.1, by rw [e28]; exact h.1.2.2.2⟩, h.2.1.trans (FrS.of FrE.act), ?_, fun hs => ⟨(h.2.2.2.1 hs).1, ?_⟩, h.2.2.2.2.1, fun hs => by rw [e28]; exact h.2.2.2.2.2 hs⟩, fun hs => ?_, fun hs => ?_⟩
  · have := h.2.2.1.trans h2
    simp only [List.append_nil] at this
    exact this
  · rw [h3 hs]
    have := (h.2.2.2.1 hs).2
    omega
  · rw [h4 hs]
    exact (h.pc hs).2
  · unfold f_10
    rw [if_pos (hg.2.1.2.1.trans hs)]
/-- an S has begun: the memory -/
def proM (st dp : Nat) (v : Mem) : Mem := m_10 0 0 0 (up (up (up (up v 22 12 ((st + 1 : Nat) : Int)) 22 13 ((dp + 1 : Nat) : Int)) 22 15 0) 22 14 0)
theorem pro_k {s : Int} {v : Mem} {u : Nat → Int} {n la i st dp sc : Nat} {G : Fn} {L : Sc} (h : SX s v u n la i st dp sc G L) (hr : s = 1 → v 8 3 ≤ (ps u n i : Int)) (hst : st < 300) (hdp : dp < 8) : CG s (proM st dp v) u n la i 0 0 G L ∧ proM st dp v 22 12 = ((st + 1 : Nat) : Int) ∧ proM st dp v 22 13 = ((dp + 1 : Nat) : Int) ∧ proM st dp v 28 = v 28 ∧ FrS v (proM st dp v) ∧ OW s v (proM st dp v) [(0, 0, 0)] [] [] ∧ (s = 1 → proM st dp v 8 3 = v 8 3 + 1) := by
  obtain ⟨hg, a1, a2, a3⟩ := h
  have f1 : FrS v (up (up (up (up v 22 12 ((st + 1 : Nat) : Int)) 22 13 ((dp + 1 : Nat) : Int)) 22 15 0) 22 14 0) := (((FrS.u22 (by omega)).trans (FrS.u22 (by omega))).trans (FrS.u22 (by omega))).trans (FrS.u22 (by omega))
  have ec : ∀ c, c ≠ 22 → up (up (up (up v 22 12 ((st + 1 : Nat) : Int)) 22 13 ((dp + 1 : Nat) : Int)) 22 15 0) 22 14 0 c = v c := fun c hc => by rw [up_ne hc, up_ne hc, up_ne hc, up_ne hc]
  have g1 : CG s (up (up (up (up v 22 12 ((st + 1 : Nat) : Int)) 22 13 ((dp + 1 : Nat) : Int)) 22 15 0) 22 14 0) u n la i 0 0 G L := by
    obtain ⟨b1, b4, b5, b6⟩ := hg
    refine ⟨(((b1.u22 (by omega)).u22 (by omega)).u22 (by omega)).u22 (by omega), ⟨rfl, by omega⟩, ⟨rfl, by omega⟩, ⟨b4.1, b4.2.1, b4.2.2⟩, b5, fun hs => ?_⟩
    obtain ⟨c1, c2⟩ := b6 hs
    exact ⟨c1, c2⟩
  have e8 : up (up (up (up v 22 12 ((st + 1 : Nat) : Int)) 22 13 ((dp + 1 : Nat) : Int)) 22 15 0) 22 14 0 8 3 = v 8 3 := by rw [ec 8 (by decide)]
  obtain ⟨h1, h2, h3, h4⟩ := g1.act 0 0 0 (by omega) (fun hs => by have := hr hs; have := hg.psn i; rw [e8]; omega)
  refine ⟨h1, ?_, ?_, ?_, f1.trans (FrS.of FrE.act), ?_, fun hs => ?_⟩
  · show m_10 0 0 0 _ 22 12 = _
    rw [act_cell (by omega)]; rfl
  · show m_10 0 0 0 _ 22 13 = _
    rw [act_cell (by omega)]; rfl
  · show m_10 0 0 0 _ 28 = _
    rw [act_cell (by omega), ec 28 (by decide)]
  · have o1 : OW s v (up (up (up (up v 22 12 ((st + 1 : Nat) : Int)) 22 13 ((dp + 1 : Nat) : Int)) 22 15 0) 22 14 0) [] [] [] := OW.nil (fun c c1 c2 => ec c (by omega)) rfl rfl (fun _ => by obtain ⟨c, hc, _⟩ := hg.pc; exact ⟨c, hc⟩)
    exact o1.trans h2
  · show m_10 0 0 0 _ 8 3 = _
    rw [h3 hs, e8]
/-- .. and its first word was taken -/
theorem pro_n {s : Int} {v w : Mem} {u : Nat → Int} {n la i st dp sc l : Nat} {G : Fn} {L : Sc} {nf : List Nat} {mx : Nat} (h0 : SX s v u n la i st dp sc G L) (hr : s = 1 → v 8 3 ≤ (ps u n i : Int)) (hst : st < 300) (hdp : dp < 8) (hk : kd u n i ≠ 0) (hl : ps u n i + (l + 1) ≤ ps u n (i + 1)) (hmx : s = 1 → v 28 3 = (mx : Nat)) (h : CG s w u n la i 0 0 G L) (h1 : w 22 12 = ((st + 1 : Nat) : Int)) (h2 : w 22 13 = ((dp + 1 : Nat) : Int)) (h3 : w 28 = v 28) (h4 : FrS v w) (h5 : OW s v w [(0, 0, 0)] nf []) (h6 : s = 1 → w 8 3 = v 8 3 + 1) : GS s v (m_122 w) u n la i (i + 1) (st + 1) (dp + 1) sc l G L [(0, 0, 0)] nf [] mx := by
  obtain ⟨g1, g2, g3⟩ := h.next hk
  have e28 : m_122 w 28 = w 28 := FrE.next.1 28 (by omega) (by omega)
  refine ⟨⟨g1.to0, ⟨?_, by omega⟩, ⟨?_, by omega⟩, ?_⟩, h4.trans (FrS.of FrE.next), h5.add g2, fun hs => ⟨hr hs, ?_⟩, by omega, fun hs => ?_⟩
  · rw [FrE.next.2.1 12 (by omega)]; exact h1
  · rw [FrE.next.2.1 13 (by omega)]; exact h2
  · rw [e28, h3]; exact h0.2.2.2
  · rw [g3, h6 hs]; omega
  · rw [e28, h3]; exact hmx hs
/-- an S has ended -/
theorem epi_k {s : Int} {v0 v : Mem} {u : Nat → Int} {n la i0 i st dp sc k : Nat} {G : Fn} {L : Sc} {a : Ac} {nf : List Nat} {tf : List Int} {mx : Nat} {t : Int} {d : Nat} {Q : Int → Mem → Prop} (h : GS s v0 v u n la i0 i st (dp + 1) sc (k + 1) G L a nf tf mx) (hq : ∀ v', GS s v0 v' u n la i0 i st dp sc k G L (a ++ [(1, 0, 0)]) nf tf mx → Q 0 v') : LL t (d + 1) 91 233 [(2, 22)] [] v Q := by
  refine s_91_233 (d := d) ?_
  obtain ⟨h1, -, -⟩ := h.act 1 0 0 (by omega)
  rw [h1.1.2.2.1.1, wP1 (by have := h.1.2.2.1.2; omega)]
  refine hq _ ?_
  obtain ⟨⟨⟨b1, b4, b5, b6⟩, a1, a2, a3⟩, a4, a5, a6, a7, a8⟩ := h1
  refine ⟨⟨⟨b1.u22 (by omega), b4, b5, b6⟩, a1, ⟨up_k, by omega⟩, a3⟩, a4.trans (FrS.u22 (by omega)), a5.add ?_, a6, a7, a8⟩
  exact OW.u22 (by omega) b5.2.2
/-- .. behind a fault -/
theorem epi_x {v0 v : Mem} {u : Nat → Int} {n la j : Nat} {t : Int} {d : Nat} {Q : Int → Mem → Prop} (h : CXs v0 v u n la j) (hq : ∀ v', CXs v0 v' u n la j → Q 0 v') : LL t (d + 1) 91 233 [(2, 22)] [] v Q := s_91_233 (d := d) (hq _ ((h.act 1 0 0).u22 (by omega)))
/-! What is asked of Q. -/
def PoSc (s : Int) (Q : Int → Mem → Prop) (v0 : Mem) (u : Nat → Int) (n la i0 dp : Nat) (G : Fn) (L : Sc) (rt : Int) (mx : Nat) (r : Except Nat (Jvm.Term × Nat × Nat × Nat)) : Prop := match r with
  | .error j => ∀ v', CXs v0 v' u n la j → Q 0 v'
  | .ok q => ∀ v', GS s v0 v' u n la i0 q.2.1 q.2.2.1 dp q.2.2.2 0 G (scB u n G L q.1) (coB u n G L q.1 (v0 8 3).toNat) (nfB u n G L q.1) (tfB u n G rt L q.1) (mxB u n G mx L q.1) → Q 0 v'
def PoK (s : Int) (Q : Int → Mem → Prop) (v0 : Mem) (u : Nat → Int) (n la i0 dp sc : Nat) (G : Fn) (L : Sc) (rt : Int) (mx : Nat) (r : Except Nat (Jvm.Term × Nat × Nat × Nat)) : Prop := match r with
  | .error j => ∀ v', CXs v0 v' u n la j → Q 0 v'
  | .ok q => ∀ v', GS s v0 v' u n la i0 q.2.1 q.2.2.1 dp sc 1 G L (coK u n G L q.1 (v0 8 3).toNat) (nfB u n G L q.1) (tfB u n G rt L q.1) (mxB u n G mx L q.1) → Q 0 v'
def dB (dp : Nat) : Nat := 500 + 4 * (9 - dp)
/-- an S; a BLOCK -/
def KS (s t : Int) (u : Nat → Int) (n la : Nat) (G : Fn) (f : Nat) : Prop := ∀ (i st dp sc : Nat) (r : Except Nat (Jvm.Term × Nat × Nat × Nat)), PS (kd u n) f 2 i st dp sc = some r → ∀ (d : Nat) (v : Mem) (Q : Int → Mem → Prop) (L : Sc) (rt : Int) (mx : Nat), dB dp ≤ d → SX s v u n la i st dp sc G L → (s = 1 → v 8 3 ≤ (ps u n i : Int)) → (s = 1 → f_27 (v 22 11) v = rt) → (s = 1 → v 28 3 = (mx : Nat)) → PoSc s Q v u n la i dp G L rt mx r → RR t d 91 [(2, 22)] v Q
def KB (s t : Int) (u : Nat → Int) (n la : Nat) (G : Fn) (f : Nat) : Prop := ∀ (i st dp sc : Nat) (r : Except Nat (Jvm.Term × Nat × Nat × Nat)), PS (kd u n) f 0 i st dp sc = some r → ∀ (d : Nat) (v : Mem) (Q : Int → Mem → Prop) (L : Sc) (rt : Int) (mx : Nat), dB dp + 2 ≤ d → SX s v u n la i st dp sc G L → (s = 1 → v 8 3 ≤ (ps u n i : Int)) → (s = 1 → f_27 (v 22 11) v = rt) → (s = 1 → v 28 3 = (mx : Nat)) → PoK s Q v u n la i dp sc G L rt mx r → RR t d 90 [(2, 22)] v Q
