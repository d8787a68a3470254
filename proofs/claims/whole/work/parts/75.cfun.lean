/-! The class's walk over a FUNCTION: its head. -/
/-- what a walk leaves alone while it reads FUNCTION fi -/
def FrP (fi : Nat) (v v' : Mem) : Prop := (∀ c, (c < 1 ∨ 11 < c) → c ≠ 22 → (c < 28 ∨ 30 < c) → v' c = v c) ∧ (∀ k, (k < 6 ∨ k = 7 ∨ 15 < k) → v' 22 k = v 22 k) ∧ v' 8 4 = v 8 4 ∧ ((∃ c : Nat, v 8 3 = c ∧ c ≤ 3100) → ∃ c : Nat, v' 8 3 = c ∧ c ≤ 3100) ∧ ((∃ c : Nat, v 28 2 = c ∧ c ≤ 30) → ∃ c : Nat, v' 28 2 = c ∧ c ≤ 30) ∧ ((∃ c : Nat, v 1 6 = c ∧ c ≤ 20) → ∃ c : Nat, v' 1 6 = c ∧ c ≤ 20) ∧ ∀ c k, (c = 6 ∨ c = 7) → k ≠ fi → v' c k = v c k
theorem FrP.refl (fi : Nat) (v : Mem) : FrP fi v v := ⟨fun _ _ _ _ => rfl, fun _ _ => rfl, rfl, fun h => h, fun h => h, fun h => h, fun _ _ _ _ => rfl⟩
theorem FrP.trans {fi : Nat} {v v1 v2 : Mem} (h : FrP fi v v1) (h' : FrP fi v1 v2) : FrP fi v v2 := ⟨fun c a b e => (h'.1 c a b e).trans (h.1 c a b e), fun k hk => (h'.2.1 k hk).trans (h.2.1 k hk), h'.2.2.1.trans h.2.2.1, fun q => h'.2.2.2.1 (h.2.2.2.1 q), fun q => h'.2.2.2.2.1 (h.2.2.2.2.1 q), fun q => h'.2.2.2.2.2.1 (h.2.2.2.2.2.1 q), fun c k a b => (h'.2.2.2.2.2.2 c k a b).trans (h.2.2.2.2.2.2 c k a b)⟩
theorem FrP.of {fi : Nat} {v v' : Mem} (h : FrS v v') : FrP fi v v' := ⟨fun c a b e => h.1 c (by omega) b e, fun k hk => h.2.1 k (by omega), h.2.2.1, h.2.2.2.1, h.2.2.2.2, fun q => by rw [h.1 1 (by omega) (by omega) (by omega)]; exact q, fun c k a _ => by rw [h.1 c (by omega) (by omega) (by omega)]⟩
def CXp (fi : Nat) (v0 v : Mem) (u : Nat → Int) (n la j : Nat) : Prop := CF v u n la j ∧ FrP fi v0 v
theorem CXp.of {fi : Nat} {v0 v v' : Mem} {u : Nat → Int} {n la j : Nat} (f : FrP fi v0 v) (h : CXs v v' u n la j) : CXp fi v0 v' u n la j := ⟨h.1, f.trans (FrP.of h.2)⟩
theorem CXp.to {fi : Nat} {v0 v : Mem} {u : Nat → Int} {n la j : Nat} (h : CXp fi v0 v u n la j) : CXs v v u n la j := ⟨h.1, FrS.refl v⟩
theorem CXp.via {fi : Nat} {v0 v v' : Mem} {u : Nat → Int} {n la j : Nat} (h : CXp fi v0 v u n la j) (h' : CXs v v' u n la j) : CXp fi v0 v' u n la j := CXp.of h.2 h'
/-- cells 1 .. 7 alone -/
theorem FrP.tab {fi : Nat} {v v' : Mem} (h : ∀ c, (c < 1 ∨ 7 < c) → v' c = v c) (h6 : (∃ c : Nat, v 1 6 = c ∧ c ≤ 20) → ∃ c : Nat, v' 1 6 = c ∧ c ≤ 20) (h7 : ∀ c k, (c = 6 ∨ c = 7) → k ≠ fi → v' c k = v c k) : FrP fi v v' := ⟨fun c _ _ _ => h c (by omega), fun k _ => by rw [h 22 (by omega)], by rw [h 8 (by omega)], fun q => by rw [h 8 (by omega)]; exact q, fun q => by rw [h 28 (by omega)]; exact q, h6, h7⟩
theorem CXp.tab {fi : Nat} {v0 v v' : Mem} {u : Nat → Int} {n la j : Nat} (q : CXp fi v0 v u n la j) (h : ∀ c, (c < 1 ∨ 7 < c) → v' c = v c) (h6 : (∃ c : Nat, v 1 6 = c ∧ c ≤ 20) → ∃ c : Nat, v' 1 6 = c ∧ c ≤ 20) (h7 : ∀ c k, (c = 6 ∨ c = 7) → k ≠ fi → v' c k = v c k) : CXp fi v0 v' u n la j := ⟨⟨q.1.1.keep (fun c hc => h c (by omega)) (by rw [h 22 (by omega)]), by rw [h 22 (by omega)]; exact q.1.2.1, by rw [h 22 (by omega)]; exact q.1.2.2⟩, q.2.trans (FrP.tab h h6 h7)⟩
theorem FNS.frs {v v' : Mem} {G : Fn} (h : FNS v G) (f : FrS v v') : FNS v' G := by
  unfold FNS at *
  rw [f.1 1 (by omega) (by omega) (by omega), f.1 2 (by omega) (by omega) (by omega), f.1 3 (by omega) (by omega) (by omega), f.1 4 (by omega) (by omega) (by omega), f.1 5 (by omega) (by omega) (by omega)]
  exact h
/-- from v0, at word i0, a walk over FUNCTION fi has come to word i; Gc: the FUNCTIONS that stand -/
def GP (s : Int) (v0 v : Mem) (u : Nat → Int) (n la i0 i st sc fi k : Nat) (G : Fn) (L : Sc) (Gc : Fn) (a : Ac) (nf : List Nat) (tf : List Int) (mx : Nat) : Prop := SX s v u n la i st 0 sc G L ∧ v 22 11 = fi ∧ FNS v Gc ∧ FrP fi v0 v ∧ OW s v0 v a nf tf ∧ (s = 1 → v0 8 3 ≤ (ps u n i0 : Int) ∧ v 8 3 + (ps u n i0 : Int) + (k : Int) ≤ v0 8 3 + (ps u n i : Int)) ∧ i0 ≤ i ∧ (s = 1 → v 28 3 = (mx : Nat))
theorem GP.subS {s : Int} {v0 v v' : Mem} {u : Nat → Int} {n la i0 i i' st sc st' sc' fi k k' : Nat} {G : Fn} {L L' : Sc} {Gc : Fn} {a a' : Ac} {nf nf' : List Nat} {tf tf' : List Int} {mx mx' : Nat} (h : GP s v0 v u n la i0 i st sc fi k G L Gc a nf tf mx) (h' : GS s v v' u n la i i' st' 0 sc' k' G L' a' nf' tf' mx') : GP s v0 v' u n la i0 i' st' sc' fi (k + k') G L' Gc (a ++ a') (nf ++ nf') (tf ++ tf') mx' := by
  obtain ⟨a1, a2, a3, a4, a5, a6, a7, a8⟩ := h
  refine ⟨h'.1, by rw [h'.2.1.2.1 11 (by omega)]; exact a2, a3.frs h'.2.1, a4.trans (FrP.of h'.2.1), a5.trans h'.2.2.1, fun hs => ⟨(a6 hs).1, ?_⟩, Nat.le_trans a7 h'.2.2.2.2.1, h'.2.2.2.2.2⟩
  have h1 := (a6 hs).2
  have h2 := (h'.2.2.2.1 hs).2
  omega
theorem GP.gs {s : Int} {v0 v : Mem} {u : Nat → Int} {n la i0 i st sc fi k : Nat} {G : Fn} {L : Sc} {Gc : Fn} {a : Ac} {nf : List Nat} {tf : List Int} {mx : Nat} (h : GP s v0 v u n la i0 i st sc fi k G L Gc a nf tf mx) : GS s v v u n la i i st 0 sc 0 G L [] [] [] mx := by
  obtain ⟨a1, a2, a3, a4, a5, a6, a7, a8⟩ := h
  refine ⟨a1, FrS.refl v, OW.nil (fun _ _ _ => rfl) rfl rfl (fun _ => by obtain ⟨c, hc, _⟩ := a1.1.pc; exact ⟨c, hc⟩), fun hs => ⟨?_, by omega⟩, Nat.le_refl _, a8⟩
  have := a6 hs
  omega
theorem GP.pc {s : Int} {v0 v : Mem} {u : Nat → Int} {n la i0 i st sc fi k : Nat} {G : Fn} {L : Sc} {Gc : Fn} {a : Ac} {nf : List Nat} {tf : List Int} {mx : Nat} (h : GP s v0 v u n la i0 i st sc fi k G L Gc a nf tf mx) (hs : s = 1) : (v 8 3).toNat = (v0 8 3).toNat + a.length ∧ v 8 3 = ((v0 8 3).toNat + a.length : Nat) := by
  obtain ⟨pc, h1, h2, -⟩ := h.2.2.2.2.1.2 hs
  rw [h1, h2]
  exact ⟨by omega, by omega⟩
theorem GP.eq {s : Int} {v0 v : Mem} {u : Nat → Int} {n la i0 i st sc fi k : Nat} {G : Fn} {L : Sc} {Gc : Fn} {a b : Ac} {nf nf' : List Nat} {tf tf' : List Int} {mx mx' : Nat} (h : GP s v0 v u n la i0 i st sc fi k G L Gc a nf tf mx) (h1 : s = 1 → a = b) (h2 : s = 1 → nf = nf') (h3 : s = 1 → tf = tf') (h4 : s = 1 → mx = mx') : GP s v0 v u n la i0 i st sc fi k G L Gc b nf' tf' mx' := ⟨h.1, h.2.1, h.2.2.1, h.2.2.2.1, h.2.2.2.2.1.eq h1 h2 h3, h.2.2.2.2.2.1, h.2.2.2.2.2.2.1, fun hs => by rw [← h4 hs]; exact h.2.2.2.2.2.2.2 hs⟩
theorem GP.less {s : Int} {v0 v : Mem} {u : Nat → Int} {n la i0 i st sc fi k k' : Nat} {G : Fn} {L : Sc} {Gc : Fn} {a : Ac} {nf : List Nat} {tf : List Int} {mx : Nat} (h : GP s v0 v u n la i0 i st sc fi k G L Gc a nf tf mx) (hk : k' ≤ k) : GP s v0 v u n la i0 i st sc fi k' G L Gc a nf tf mx := ⟨h.1, h.2.1, h.2.2.1, h.2.2.2.1, h.2.2.2.2.1, fun hs => ⟨(h.2.2.2.2.2.1 hs).1, by have := (h.2.2.2.2.2.1 hs).2; omega⟩, h.2.2.2.2.2.2⟩
theorem GP.expect {s : Int} {v0 v : Mem} {u : Nat → Int} {n la i0 i st sc fi k : Nat} {G : Fn} {L : Sc} {Gc : Fn} {a : Ac} {nf : List Nat} {tf : List Int} {mx : Nat} {c : Int} (h : GP s v0 v u n la i0 i st sc fi k G L Gc a nf tf mx) (hc : c ≠ 0 ∧ c ≠ 1) : (kd u n i = c ∧ GP s v0 (m_123 c v) u n la i0 (i + 1) st sc fi (k + 1) G L Gc a nf tf mx) ∨ (¬ kd u n i = c ∧ CXp fi v0 (m_123 c v) u n la i) := by
  rcases h.gs.expect hc with ⟨h1, g⟩ | ⟨h1, g⟩
  · have := h.subS g
    simp only [List.append_nil, Nat.zero_add] at this
    exact Or.inl ⟨h1, this⟩
  · exact Or.inr ⟨h1, CXp.of h.2.2.2.1 g⟩
theorem GP.next {s : Int} {v0 v : Mem} {u : Nat → Int} {n la i0 i st sc fi k : Nat} {G : Fn} {L : Sc} {Gc : Fn} {a : Ac} {nf : List Nat} {tf : List Int} {mx : Nat} (h : GP s v0 v u n la i0 i st sc fi k G L Gc a nf tf mx) (h0 : kd u n i ≠ 0) (h1 : kd u n i ≠ 1) : GP s v0 (m_122 v) u n la i0 (i + 1) st sc fi (k + 1) G L Gc a nf tf mx := by
  have := h.subS (h.gs.next h0 h1)
  simp only [List.append_nil, Nat.zero_add] at this
  exact this
/-- a TYPE -/
theorem GP.type {s : Int} {v0 v : Mem} {u : Nat → Int} {n la i0 i st sc fi k : Nat} {G : Fn} {L : Sc} {Gc : Fn} {a : Ac} {nf : List Nat} {tf : List Int} {mx : Nat} (h : GP s v0 v u n la i0 i st sc fi k G L Gc a nf tf mx) : ((kd u n i = 17 ∨ kd u n i = 24) ∧ GP s v0 (m_89 v) u n la i0 (i + 1) st sc fi (k + 1) G L Gc a nf tf mx ∧ f_89 v = tyk (kd u n i)) ∨ (¬ (kd u n i = 17 ∨ kd u n i = 24) ∧ CXp fi v0 (m_89 v) u n la i) := by
  have hk : f_155 (v 22 10) v = kd u n i := h.1.1.1.kind
  unfold m_89 f_89 tyk
  rw [hk]
  by_cases h24 : kd u n i = 24
  · rw [if_pos h24, if_pos h24]
    rcases h.expect (c := 24) (by omega) with ⟨-, g⟩ | ⟨hx, -⟩
    · exact Or.inl ⟨Or.inr h24, g, by rw [if_neg (by omega)]⟩
    · exact absurd h24 hx
  · rw [if_neg h24, if_neg h24]
    rcases h.expect (c := 17) (by omega) with ⟨h1, g⟩ | ⟨hx, g⟩
    · exact Or.inl ⟨Or.inl h1, g, by rw [if_pos h1]⟩
    · exact Or.inr ⟨by omega, g⟩
theorem CXp.type {fi : Nat} {v0 v : Mem} {u : Nat → Int} {n la j : Nat} (h : CXp fi v0 v u n la j) : CXp fi v0 (m_89 v) u n la j := by
  unfold m_89
  split
  · exact h.via (h.to.expect _)
  · exact h.via (h.to.expect _)
theorem CXp.expect {fi : Nat} {v0 v : Mem} {u : Nat → Int} {n la j : Nat} (h : CXp fi v0 v u n la j) (k : Int) : CXp fi v0 (m_123 k v) u n la j := h.via (h.to.expect k)
theorem CXp.fnm {fi : Nat} {v0 v : Mem} {u : Nat → Int} {n la j : Nat} (h : CXp fi v0 v u n la j) (k : Int) : CXp fi v0 (m_125 k v) u n la j := h.via (h.to.fnm k)
theorem CXp.add {fi : Nat} {v0 v : Mem} {u : Nat → Int} {n la j : Nat} (h : CXp fi v0 v u n la j) (a b : Int) : CXp fi v0 (m_130 a b v) u n la j := h.via (h.to.add a b)
theorem CXp.act {fi : Nat} {v0 v : Mem} {u : Nat → Int} {n la j : Nat} (h : CXp fi v0 v u n la j) (a b c : Int) : CXp fi v0 (m_10 a b c v) u n la j := h.via (h.to.act a b c)
theorem GP.fnm {s : Int} {v0 v : Mem} {u : Nat → Int} {n la i0 i st sc fi k : Nat} {G : Fn} {L : Sc} {Gc : Fn} {a : Ac} {nf : List Nat} {tf : List Int} {mx : Nat} (h : GP s v0 v u n la i0 i st sc fi k G L Gc a nf tf mx) (p : Nat) : GP s v0 (m_125 (p : Int) v) u n la i0 i st sc fi k G L Gc a (nf ++ [p]) tf mx := by
  obtain ⟨⟨hg, b1, b2, b3⟩, a2, a3, a4, a5, a6, a7, a8⟩ := h
  have e28 : m_125 (p : Int) v 28 = v 28 := fnm_cell (by decide)
  have o : OW s v (m_125 (p : Int) v) [] [p] [] := by
    refine ⟨fun hs => ?_, fun hs => ?_⟩
    · have e : m_125 (p : Int) v = v := by
        unfold m_125
        rw [if_pos (hg.2.1.1.trans hs)]
      rw [e]
      exact ⟨rfl, rfl, rfl, rfl, rfl, rfl⟩
    · obtain ⟨c, hc, _⟩ := hg.pc
      refine ⟨c, hc, by rw [fnm_cell (by decide)]; exact hc, trivial, fun q k h1 h2 _ => by rw [fnm_cell (by omega)], ?_, fnm_at (by decide)⟩
      have h4 := hg.2.1.1
      unfold m_125
      rw [if_neg (by omega)]
      show _ = (if v 22 8 = -1 then (p : Int) else if (p : Int) < v 22 8 then (p : Int) else v 22 8)
      by_cases h9 : v 22 8 = -1
      · rw [if_pos h9, if_pos h9, up_k]
      · rw [if_neg h9, if_neg h9]
        by_cases h7 : (p : Int) < v 22 8
        · rw [if_pos h7, if_pos h7, up_k]
        · rw [if_neg h7, if_neg h7]
  refine ⟨⟨hg.fr FrE.fnm (hg.1.fnm p), by rw [fnm_at (by decide)]; exact b1, by rw [fnm_at (by decide)]; exact b2, by rw [e28]; exact b3⟩, by rw [fnm_at (by decide)]; exact a2, a3.frs (FrS.of FrE.fnm), a4.trans (FrP.of (FrS.of FrE.fnm)), ?_, fun hs => by rw [fnm_cell (by decide)]; exact a6 hs, a7, fun hs => by rw [e28]; exact a8 hs⟩
  have := a5.trans o
  simp only [List.append_nil] at this
  exact this
/-- the rows of FUNCTIONS have changed -/
theorem GP.tab {s : Int} {v0 v v' : Mem} {u : Nat → Int} {n la i0 i st sc fi k : Nat} {G : Fn} {L : Sc} {Gc Gc' : Fn} {a : Ac} {nf : List Nat} {tf : List Int} {mx : Nat} (h : GP s v0 v u n la i0 i st sc fi k G L Gc a nf tf mx) (h1 : ∀ c, (c < 1 ∨ 7 < c) → v' c = v c) (h7 : ∀ c k, (c = 6 ∨ c = 7) → k ≠ fi → v' c k = v c k) (hF : FNS v' Gc') (hG : s = 1 → FNS v' G) : GP s v0 v' u n la i0 i st sc fi k G L Gc' a nf tf mx := by
  obtain ⟨⟨⟨c1, c2, c3, c4⟩, b1, b2, b3⟩, a2, a3, a4, a5, a6, a7, a8⟩ := h
  have e6 : ∃ c : Nat, v' 1 6 = c ∧ c ≤ 20 := ⟨Gc'.length, hF.1, hF.2.1⟩
  refine ⟨⟨⟨⟨c1.1.keep (fun c hc => h1 c (by omega)) (by rw [h1 22 (by omega)]), by rw [h1 22 (by omega)]; exact c1.2.1, by rw [h1 22 (by omega)]; exact c1.2.2.1, c1.2.2.2⟩, by rw [h1 22 (by omega), h1 8 (by omega)]; exact c2, ⟨e6, by rw [h1 28 (by omega)]; exact c3.2.1, by rw [h1 8 (by omega)]; exact c3.2.2⟩, fun hs => ⟨hG hs, ?_⟩⟩, by rw [h1 22 (by omega)]; exact b1, by rw [h1 22 (by omega)]; exact b2, by rw [h1 28 (by omega)]; exact b3⟩, by rw [h1 22 (by omega)]; exact a2, hF, a4.trans (FrP.tab h1 (fun _ => e6) h7), a5.add ?_, fun hs => by rw [h1 8 (by omega)]; exact a6 hs, a7, fun hs => by rw [h1 28 (by omega)]; exact a8 hs⟩
  · have := (c4 hs).2
    unfold SCP at *
    rw [h1 28 (by omega), h1 29 (by omega), h1 30 (by omega)]
    exact this
  · exact OW.nil (fun c x1 x2 => h1 c (by omega)) (by rw [h1 22 (by omega)]) (by rw [h1 22 (by omega)]) (fun _ => by obtain ⟨c, hc, _⟩ := c3.2.2; exact ⟨c, hc⟩)
