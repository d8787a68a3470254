/-! The class's reader: a state of a walk, and what each small method makes of it. -/
theorem stq_le {b : Nat → Int} {n : Nat} : ∀ i, stq (uB b n) n i ≤ n := by
  intro i
  induction i with
  | zero => exact Nat.zero_le _
  | succ i ih =>
    show toC (uB b n) n (en isBl (uB b n) n (stq (uB b n) n i)) ≤ n
    have h1 := (en_b (p := isBl) (u := uB b n) ih).2
    unfold toC
    split
    · exact Nat.le_refl _
    · exact (wordAt_to (b := b) rfl h1).2
theorem ps_le {b : Nat → Int} {n : Nat} (i : Nat) : ps (uB b n) n i ≤ n := (en_b (p := isBl) (u := uB b n) (stq_le i)).2
theorem ps_to {b : Nat → Int} {n i : Nat} (h1 : kd (uB b n) n i ≠ 1) : (wordAt (uB b n) n (ps (uB b n) n i)).2.1 ≤ ps (uB b n) n (i + 1) := by
  rw [ps_next h1]
  exact (en_b (p := isBl) (u := uB b n) (wordAt_to (b := b) rfl (ps_le i)).2).1
theorem ps_adv {b : Nat → Int} {n i : Nat} (h0 : kd (uB b n) n i ≠ 0) (h1 : kd (uB b n) n i ≠ 1) : ps (uB b n) n i + 1 ≤ ps (uB b n) n (i + 1) := by
  have h2 := ps_to h1
  have hl : ps (uB b n) n i < n := by
    rcases Nat.lt_or_eq_of_le (ps_le (b := b) (n := n) i) with h | h
    · exact h
    · refine absurd ?_ h0
      unfold kd
      rw [h, word_end]
  rcases (word_adv (b := b) hl).2 with h | h
  · exact absurd h h1
  · omega
/-- the words of 2 bytes and more -/
theorem ps_adv2 {b : Nat → Int} {n i l : Nat} (h : 10 ≤ kd (uB b n) n i) (hV : ∀ q ∈ VL, q.2 = kd (uB b n) n i → l ≤ q.1.length) : ps (uB b n) n i + l ≤ ps (uB b n) n (i + 1) := by
  have h2 := ps_to (b := b) (n := n) (i := i) (by omega)
  have h3 := hV _ (word_VL (u := uB b n) (n := n) (i := ps (uB b n) n i) h) rfl
  have h3 : l ≤ (segU (uB b n) (ps (uB b n) n i) ((wordAt (uB b n) n (ps (uB b n) n i)).2.1 - ps (uB b n) n i)).length := h3
  rw [segU_len] at h3
  have h4 := wordAt_to (b := b) (n := n) (i := ps (uB b n) n i) rfl (ps_le i)
  omega
theorem fndA_eq {b b' : Nat → Int} {x : Int} : ∀ (m k : Nat), (∀ j, k ≤ j → j < k + m → b j = b' j) → fndA b x m k = fndA b' x m k := by
  intro m
  induction m with
  | zero => intro k _; rfl
  | succ m ih =>
    intro k h
    show (if b k = x then (k : Int) else fndA b x m (k + 1)) = (if b' k = x then (k : Int) else fndA b' x m (k + 1))
    rw [h k (Nat.le_refl _) (by omega), ih (k + 1) (fun j h1 h2 => h j (by omega) (by omega))]
/-- the FUNCTIONS stand -/
def FNS (v : Mem) (G : Fn) : Prop := v 1 6 = (G.length : Nat) ∧ G.length ≤ 20 ∧ ∀ k, k < G.length → v 2 k = (G.getD k (0, [], 0)).1 ∧ v 3 k = ((G.getD k (0, [], 0)).2.1.length : Nat) ∧ (G.getD k (0, [], 0)).2.1.length ≤ 6 ∧ v 5 k = (G.getD k (0, [], 0)).2.2 ∧ ∀ j, j < (G.getD k (0, [], 0)).2.1.length → v 4 (k * 6 + j) = (G.getD k (0, [], 0)).2.1.getD j 0
/-- the locals in scope stand -/
def SCP (v : Mem) (L : Sc) : Prop := v 28 2 = (L.length : Nat) ∧ L.length ≤ 30 ∧ ∀ k, k < L.length → v 29 k = (L.getD k (0, 0)).1 ∧ v 30 k = (L.getD k (0, 0)).2
/-- within an E, at word i: sg SIGNS, nb brackets; s: 0 in the first walk, 1 in the second -/
def CG (s : Int) (v : Mem) (u : Nat → Int) (n la i sg nb : Nat) (G : Fn) (L : Sc) : Prop := CN v u n la i ∧ (v 22 15 = sg ∧ sg ≤ 40) ∧ (v 22 14 = nb ∧ nb ≤ 8) ∧ (v 22 4 = s ∧ v 8 4 = s ∧ (s = 0 ∨ s = 1)) ∧ ((∃ c : Nat, v 1 6 = c ∧ c ≤ 20) ∧ (∃ c : Nat, v 28 2 = c ∧ c ≤ 30) ∧ ∃ c : Nat, v 8 3 = c ∧ c ≤ 3100) ∧ (s = 1 → FNS v G ∧ SCP v L)
theorem FNS.fr {v v' : Mem} {G : Fn} (h : FNS v G) (f : FrE v v') : FNS v' G := by
  unfold FNS at *
  rw [f.1 1 (by omega) (by omega), f.1 2 (by omega) (by omega), f.1 3 (by omega) (by omega), f.1 4 (by omega) (by omega), f.1 5 (by omega) (by omega)]
  exact h
theorem SCP.fr {v v' : Mem} {L : Sc} (h : SCP v L) (f : FrE v v') : SCP v' L := by
  unfold SCP at *
  rw [f.1 28 (by omega) (by omega), f.1 29 (by omega) (by omega), f.1 30 (by omega) (by omega)]
  exact h
/-- a state of a walk behind another one -/
theorem CG.fr {s : Int} {v v' : Mem} {u : Nat → Int} {n la i sg nb i' sg' nb' : Nat} {G : Fn} {L : Sc} (h : CG s v u n la i sg nb G L) (f : FrE v v') (h1 : CN v' u n la i') (h2 : v' 22 15 = sg' ∧ sg' ≤ 40) (h3 : v' 22 14 = nb' ∧ nb' ≤ 8) : CG s v' u n la i' sg' nb' G L := by
  obtain ⟨-, -, -, a4, a5, a6⟩ := h
  refine ⟨h1, h2, h3, ⟨by rw [f.2.1 4 (by omega)]; exact a4.1, by rw [f.2.2.1]; exact a4.2.1, a4.2.2⟩, ⟨?_, ?_, f.2.2.2 a5.2.2⟩, fun hs => ⟨(a6 hs).1.fr f, (a6 hs).2.fr f⟩⟩
  · rw [f.1 1 (by omega) (by omega)]; exact a5.1
  · rw [f.1 28 (by omega) (by omega)]; exact a5.2.1
theorem CG.pc {s : Int} {v : Mem} {u : Nat → Int} {n la i sg nb : Nat} {G : Fn} {L : Sc} (h : CG s v u n la i sg nb G L) : ∃ c : Nat, v 8 3 = c ∧ c ≤ 3100 := h.2.2.2.2.1.2.2
theorem CG.bnd {s : Int} {v : Mem} {u : Nat → Int} {n la i sg nb : Nat} {G : Fn} {L : Sc} (h : CG s v u n la i sg nb G L) : i ≤ la ∧ la ≤ n ∧ n ≤ 3000 := ⟨h.1.2.2.2, h.1.1.1.2.2.1, h.1.1.2.1⟩
theorem CG.u {s : Int} {v : Mem} {u : Nat → Int} {n la i sg nb : Nat} {G : Fn} {L : Sc} (h : CG s v u n la i sg nb G L) : u = uB (v 12) n := h.1.1.2.2.1.symm
theorem CG.psn {s : Int} {v : Mem} {u : Nat → Int} {n la i sg nb : Nat} {G : Fn} {L : Sc} (h : CG s v u n la i sg nb G L) (j : Nat) : ps u n j ≤ 3000 := by
  have h1 := ps_le (b := v 12) (n := n) j
  rw [← h.u] at h1
  have := h.bnd
  omega
theorem CN.lt {v : Mem} {u : Nat → Int} {n la i : Nat} (h : CN v u n la i) (hk : kd u n i ≠ 0) : i < la := by
  rcases Nat.lt_or_eq_of_le h.2.2.2 with h9 | h9
  · exact h9
  · have h8 := h.1.1.2.2.2.2.2.2.2.1
    rw [h.1.2.2.1, ← h9] at h8
    exact absurd h8 hk
theorem CG.adv {s : Int} {v : Mem} {u : Nat → Int} {n la i sg nb : Nat} {G : Fn} {L : Sc} (h : CG s v u n la i sg nb G L) (j : Nat) (h0 : kd u n j ≠ 0) (h1 : kd u n j ≠ 1) : ps u n j + 1 ≤ ps u n (j + 1) := by
  have e := h.u
  generalize v 12 = b at e
  subst e
  exact ps_adv h0 h1
/-- fields of the reader alone -/
theorem FrE.u22 {v : Mem} {k : Nat} {a : Int} (hk : k = 6 ∨ (8 ≤ k ∧ k ≤ 10) ∨ k = 14 ∨ k = 15) : FrE v (up v 22 k a) := ⟨fun c _ h => up_ne h, fun j hj => up_nk (by omega), by rw [up_ne (by decide)], fun h => by rw [up_ne (by decide)]; exact h⟩
theorem FrE.act {v : Mem} {a b c : Int} : FrE v (m_10 a b c v) := by
  refine ⟨fun q h _ => act_cell h, fun k _ => by rw [act_cell (by omega)], ?_, ?_⟩
  · unfold m_10
    split
    · rfl
    · split
      · rfl
      · split
        · rw [up_nk (by decide)]; rfl
        · rfl
  · rintro ⟨q, h1, h2⟩
    unfold m_10
    split
    · exact ⟨q, h1, h2⟩
    · split
      · exact ⟨q, h1, h2⟩
      · split
        · rename_i h3
          refine ⟨q + 1, ?_, by omega⟩
          rw [up_k, h1]
          exact wNat (by omega) (by omega)
        · exact ⟨q, h1, h2⟩
theorem FrE.want {v : Mem} {a b c : Int} : FrE v (m_126 a b c v) := ⟨fun q _ h => want_cell h, fun k hk => want_at (by omega), by rw [want_cell (by decide)], fun h => by rw [want_cell (by decide)]; exact h⟩
theorem FrE.fnm {v : Mem} {a : Int} : FrE v (m_125 a v) := ⟨fun q _ h => fnm_cell h, fun k hk => fnm_at (by omega), by rw [fnm_cell (by decide)], fun h => by rw [fnm_cell (by decide)]; exact h⟩
theorem FrE.aim {v : Mem} {a : Int} : FrE v (aimM a v) := ⟨fun q h _ => aim_cell (by omega), fun k _ => by rw [aim_cell (by decide)], by rw [aim_cell (by decide)], fun h => by rw [aim_cell (by decide)]; exact h⟩
theorem FrE.next {v : Mem} : FrE v (m_122 v) := by
  unfold m_122
  split
  · exact FrE.u22 (by omega)
  · exact FrE.refl v
theorem FrE.refuse {v : Mem} : FrE v (m_124 v) := by
  unfold m_124
  split
  · exact (FrE.u22 (by omega)).trans (FrE.u22 (by omega))
  · exact FrE.u22 (by omega)
theorem FrE.expect {v : Mem} {k : Int} : FrE v (m_123 k v) := by
  unfold m_123
  split
  · exact FrE.next
  · exact FrE.refuse
theorem FrE.sign {v : Mem} : FrE v (m_119 v) := by
  unfold m_119
  split
  · exact FrE.u22 (by omega)
  · exact FrE.refuse.trans (FrE.u22 (by omega))
theorem FrE.opn {v : Mem} {k : Int} : FrE v (m_117 k v) := by
  unfold m_117
  split
  · split
    · exact FrE.next.trans (FrE.u22 (by omega))
    · exact FrE.refuse.trans (FrE.u22 (by omega))
  · exact FrE.refuse.trans (FrE.u22 (by omega))
theorem FrE.shut {v : Mem} {k : Int} : FrE v (m_118 k v) := by
  unfold m_118
  split
  · exact FrE.next.trans (FrE.u22 (by omega))
  · exact FrE.refuse.trans (FrE.u22 (by omega))
/-! Behind a fault of THE TEXT. -/
theorem CF.u22 {v : Mem} {u : Nat → Int} {n la j k : Nat} {a : Int} (h : CF v u n la j) (hk : k ≠ 5 ∧ k ≠ 6 ∧ k ≠ 10) : CF (up v 22 k a) u n la j := ⟨h.1.keep (fun c hc => up_ne (by omega)) (up_nk (by omega)), by rw [up_nk (by omega)]; exact h.2.1, by rw [up_nk (by omega)]; exact h.2.2⟩
theorem CF.next {v : Mem} {u : Nat → Int} {n la j : Nat} (h : CF v u n la j) : CF (m_122 v) u n la j := by
  rw [h.next_st]; exact h
theorem CF.expect {v : Mem} {u : Nat → Int} {n la j : Nat} (h : CF v u n la j) (k : Int) : CF (m_123 k v) u n la j := by
  rw [h.expect_id]; exact h
theorem CF.sign {v : Mem} {u : Nat → Int} {n la j : Nat} (h : CF v u n la j) : CF (m_119 v) u n la j := by
  unfold m_119
  split
  · exact h.u22 (by omega)
  · exact h.refuse_st.u22 (by omega)
theorem CF.opn {v : Mem} {u : Nat → Int} {n la j : Nat} (h : CF v u n la j) (k : Int) : CF (m_117 k v) u n la j := by
  unfold m_117
  split
  · split
    · exact h.next.u22 (by omega)
    · exact h.refuse_st.u22 (by omega)
  · exact h.refuse_st.u22 (by omega)
theorem CF.shut {v : Mem} {u : Nat → Int} {n la j : Nat} (h : CF v u n la j) (k : Int) : CF (m_118 k v) u n la j := by
  unfold m_118
  split
  · exact h.next.u22 (by omega)
  · exact h.refuse_st.u22 (by omega)
/-- behind a fault, seen from v0 -/
def CXf (v0 v : Mem) (u : Nat → Int) (n la j : Nat) : Prop := CF v u n la j ∧ FrE v0 v
theorem CXf.act {v0 v : Mem} {u : Nat → Int} {n la j : Nat} (h : CXf v0 v u n la j) (a b c : Int) : CXf v0 (m_10 a b c v) u n la j := ⟨h.1.act a b c, h.2.trans FrE.act⟩
theorem CXf.want {v0 v : Mem} {u : Nat → Int} {n la j : Nat} (h : CXf v0 v u n la j) (a b c : Int) : CXf v0 (m_126 a b c v) u n la j := ⟨h.1.want a b c, h.2.trans FrE.want⟩
theorem CXf.fnm {v0 v : Mem} {u : Nat → Int} {n la j : Nat} (h : CXf v0 v u n la j) (a : Int) : CXf v0 (m_125 a v) u n la j := ⟨h.1.fnm a, h.2.trans FrE.fnm⟩
theorem CXf.aim {v0 v : Mem} {u : Nat → Int} {n la j : Nat} (h : CXf v0 v u n la j) (a : Int) : CXf v0 (aimM a v) u n la j := ⟨h.1.aim a, h.2.trans FrE.aim⟩
theorem CXf.next {v0 v : Mem} {u : Nat → Int} {n la j : Nat} (h : CXf v0 v u n la j) : CXf v0 (m_122 v) u n la j := ⟨h.1.next, h.2.trans FrE.next⟩
theorem CXf.expect {v0 v : Mem} {u : Nat → Int} {n la j : Nat} (h : CXf v0 v u n la j) (k : Int) : CXf v0 (m_123 k v) u n la j := ⟨h.1.expect k, h.2.trans FrE.expect⟩
theorem CXf.sign {v0 v : Mem} {u : Nat → Int} {n la j : Nat} (h : CXf v0 v u n la j) : CXf v0 (m_119 v) u n la j := ⟨h.1.sign, h.2.trans FrE.sign⟩
theorem CXf.opn {v0 v : Mem} {u : Nat → Int} {n la j : Nat} (h : CXf v0 v u n la j) (k : Int) : CXf v0 (m_117 k v) u n la j := ⟨h.1.opn k, h.2.trans FrE.opn⟩
theorem CXf.shut {v0 v : Mem} {u : Nat → Int} {n la j : Nat} (h : CXf v0 v u n la j) (k : Int) : CXf v0 (m_118 k v) u n la j := ⟨h.1.shut k, h.2.trans FrE.shut⟩
theorem CXf.row {t : Int} {v0 v : Mem} {u : Nat → Int} {n la j l D : Nat} {Q : Int → Mem → Prop} (h : CXf v0 v u n la j) (hl : l ≤ 5) (hD : 10 ≤ D) (hq : Q 0 v) : RR t D 100 [(2, 22), (0, (l : Int))] v Q := by
  have h1 := cf_row (t := t) h.1 (5 - l) l D Q (by omega) (by omega) (by rw [h.1.refuse_id]; exact hq)
  exact h1
theorem CXf.rowOf {t : Int} {v0 v : Mem} {u : Nat → Int} {n la j D : Nat} {Q : Int → Mem → Prop} {a : Int} (h : CXf v0 v u n la j) (hD : 11 ≤ D) (hq : ∀ v', CXf v0 v' u n la j → Q 0 v') : RR t D 99 [(2, 22), (0, a)] v Q := by
  obtain ⟨d, rfl⟩ : ∃ d, D = d + 11 := ⟨D - 11, by omega⟩
  exact cf_rowOf h.1 (hq _ (h.want _ _ _))
/-! One step of a walk. -/
theorem CG.kind {s : Int} {v : Mem} {u : Nat → Int} {n la i sg nb : Nat} {G : Fn} {L : Sc} (h : CG s v u n la i sg nb G L) : f_155 (v 22 10) v = kd u n i := h.1.kind
theorem CG.place {s : Int} {v : Mem} {u : Nat → Int} {n la i sg nb : Nat} {G : Fn} {L : Sc} (h : CG s v u n la i sg nb G L) : f_156 (v 22 10) v = (ps u n i : Nat) := h.1.place
theorem CN.u22 {v : Mem} {u : Nat → Int} {n la i k : Nat} {a : Int} (h : CN v u n la i) (hk : k ≠ 5 ∧ k ≠ 6 ∧ k ≠ 10) : CN (up v 22 k a) u n la i := ⟨h.1.keep (fun c hc => up_ne (by omega)) (up_nk (by omega)), by rw [up_nk (by omega)]; exact h.2.1, by rw [up_nk (by omega)]; exact h.2.2.1, h.2.2.2⟩
theorem OW.u22 {s : Int} {v : Mem} {k : Nat} {a : Int} (hk : k ≠ 8 ∧ k ≠ 9) (hc : ∃ c : Nat, v 8 3 = c ∧ c ≤ 3100) : OW s v (up v 22 k a) [] [] [] := OW.nil (fun c _ _ => up_ne (by omega)) (up_nk (by omega)) (up_nk (by omega)) (fun _ => by obtain ⟨c, h, _⟩ := hc; exact ⟨c, h⟩)
theorem CG.next {s : Int} {v : Mem} {u : Nat → Int} {n la i sg nb : Nat} {G : Fn} {L : Sc} (h : CG s v u n la i sg nb G L) (h0 : kd u n i ≠ 0) : CG s (m_122 v) u n la (i + 1) sg nb G L ∧ OW s v (m_122 v) [] [] [] ∧ m_122 v 8 3 = v 8 3 := by
  have hi := h.1.lt h0
  have e := h.1.next hi
  refine ⟨h.fr FrE.next (h.1.next_st hi) ⟨?_, h.2.1.2⟩ ⟨?_, h.2.2.1.2⟩, ?_, ?_⟩
  · rw [e, up_nk (by decide)]; exact h.2.1.1
  · rw [e, up_nk (by decide)]; exact h.2.2.1.1
  · rw [e]; exact OW.u22 (by omega) h.pc
  · rw [e, up_ne (by decide)]
theorem CG.expect {s : Int} {v : Mem} {u : Nat → Int} {n la i sg nb : Nat} {G : Fn} {L : Sc} {k : Int} (h : CG s v u n la i sg nb G L) (hk0 : k ≠ 0) : (kd u n i = k ∧ CG s (m_123 k v) u n la (i + 1) sg nb G L ∧ OW s v (m_123 k v) [] [] [] ∧ m_123 k v 8 3 = v 8 3) ∨ (¬ kd u n i = k ∧ CXf v (m_123 k v) u n la i) := by
  rcases h.1.expect hk0 with ⟨h1, h2, h3, h4⟩ | ⟨h1, h2, h3⟩
  · rw [h3]
    exact Or.inl ⟨h1, h.next (by omega)⟩
  · exact Or.inr ⟨h1, h3, FrE.expect⟩
theorem CG.sign {s : Int} {v : Mem} {u : Nat → Int} {n la i sg nb : Nat} {G : Fn} {L : Sc} (h : CG s v u n la i sg nb G L) : (sg < 40 ∧ CG s (m_119 v) u n la i (sg + 1) nb G L ∧ OW s v (m_119 v) [] [] [] ∧ m_119 v 8 3 = v 8 3) ∨ (40 ≤ sg ∧ CXf v (m_119 v) u n la i) := by
  have h15 := h.2.1.1
  rcases Nat.lt_or_ge sg 40 with hs | hs
  · have e : m_119 v = up v 22 15 ((sg + 1 : Nat) : Int) := by
      unfold m_119
      rw [h15, if_pos (by omega), wS hs (by decide)]
    refine Or.inl ⟨hs, h.fr FrE.sign ?_ ⟨?_, hs⟩ ⟨?_, h.2.2.1.2⟩, ?_, ?_⟩
    · rw [e]; exact h.1.u22 (by omega)
    · rw [e, up_k]
    · rw [e, up_nk (by decide)]; exact h.2.2.1.1
    · rw [e]; exact OW.u22 (by omega) h.pc
    · rw [e, up_ne (by decide)]
  · have e : m_119 v = up (m_124 v) 22 15 (w32 ((m_124 v 22 15) + 1)) := by
      unfold m_119
      rw [h15, if_neg (by omega)]
    refine Or.inr ⟨hs, ?_, FrE.sign⟩
    rw [e]
    exact h.1.refuse_st.u22 (by omega)
theorem CG.opn {s : Int} {v : Mem} {u : Nat → Int} {n la i sg nb : Nat} {G : Fn} {L : Sc} {k : Int} (h : CG s v u n la i sg nb G L) (hk0 : k ≠ 0) : (kd u n i = k ∧ nb < 8 ∧ CG s (m_117 k v) u n la (i + 1) sg (nb + 1) G L ∧ OW s v (m_117 k v) [] [] [] ∧ m_117 k v 8 3 = v 8 3) ∨ (¬ (kd u n i = k ∧ nb < 8) ∧ CXf v (m_117 k v) u n la i) := by
  have h14 := h.2.2.1.1
  rcases Nat.lt_or_ge nb 8 with hs | hs
  · by_cases hk : kd u n i = k
    · obtain ⟨g1, g2, g3⟩ := h.next (by omega)
      have e : m_117 k v = up (m_122 v) 22 14 ((nb + 1 : Nat) : Int) := by
        unfold m_117
        rw [h14, if_pos (by omega), h.kind, if_pos hk, g1.2.2.1.1, wS hs (by decide)]
      refine Or.inl ⟨hk, hs, g1.fr (v' := m_117 k v) ?_ ?_ ⟨?_, g1.2.1.2⟩ ⟨?_, hs⟩, ?_, ?_⟩
      · rw [e]; exact FrE.u22 (by omega)
      · rw [e]; exact g1.1.u22 (by omega)
      · rw [e, up_nk (by decide)]; exact g1.2.1.1
      · rw [e, up_k]
      · rw [e]; exact g2.trans (OW.u22 (by omega) g1.pc)
      · rw [e, up_ne (by decide)]; exact g3
    · refine Or.inr ⟨fun q => hk q.1, ?_, FrE.opn⟩
      have e : m_117 k v = up (m_124 v) 22 14 (w32 ((m_124 v 22 14) + 1)) := by
        unfold m_117
        rw [h14, if_pos (by omega), h.kind, if_neg hk]
      rw [e]
      exact h.1.refuse_st.u22 (by omega)
  · refine Or.inr ⟨fun q => absurd q.2 (by omega), ?_, FrE.opn⟩
    have e : m_117 k v = up (m_124 v) 22 14 (w32 ((m_124 v 22 14) + 1)) := by
      unfold m_117
      rw [h14, if_neg (by omega)]
    rw [e]
    exact h.1.refuse_st.u22 (by omega)
theorem wP1 {k : Nat} (hk : k < 5000) : w32 (((k + 1 : Nat) : Int) - 1) = (k : Int) := wNat (by omega) (by omega)
theorem CG.shut {s : Int} {v : Mem} {u : Nat → Int} {n la i sg nb : Nat} {G : Fn} {L : Sc} {k : Int} (h : CG s v u n la i sg (nb + 1) G L) (hk0 : k ≠ 0) : (kd u n i = k ∧ CG s (m_118 k v) u n la (i + 1) sg nb G L ∧ OW s v (m_118 k v) [] [] [] ∧ m_118 k v 8 3 = v 8 3) ∨ (¬ kd u n i = k ∧ CXf v (m_118 k v) u n la i) := by
  have h8 := h.2.2.1.2
  by_cases hk : kd u n i = k
  · obtain ⟨g1, g2, g3⟩ := h.next (by omega)
    have e : m_118 k v = up (m_122 v) 22 14 (nb : Int) := by
      unfold m_118
      rw [h.kind, if_pos hk, g1.2.2.1.1, wP1 (by omega)]
    refine Or.inl ⟨hk, g1.fr (v' := m_118 k v) ?_ ?_ ⟨?_, g1.2.1.2⟩ ⟨?_, by omega⟩, ?_, ?_⟩
    · rw [e]; exact FrE.u22 (by omega)
    · rw [e]; exact g1.1.u22 (by omega)
    · rw [e, up_nk (by decide)]; exact g1.2.1.1
    · rw [e, up_k]
    · rw [e]; exact g2.trans (OW.u22 (by omega) g1.pc)
    · rw [e, up_ne (by decide)]; exact g3
  · refine Or.inr ⟨hk, ?_, FrE.shut⟩
    have e : m_118 k v = up (m_124 v) 22 14 (w32 ((m_124 v 22 14) - 1)) := by
      unfold m_118
      rw [h.kind, if_neg hk]
    rw [e]
    exact h.1.refuse_st.u22 (by omega)
theorem CG.want {s : Int} {v : Mem} {u : Nat → Int} {n la i sg nb : Nat} {G : Fn} {L : Sc} (h : CG s v u n la i sg nb G L) (a b p : Int) : CG s (m_126 a b p v) u n la i sg nb G L ∧ OW s v (m_126 a b p v) [] [] (wt a b p) ∧ m_126 a b p v 8 3 = v 8 3 := by
  refine ⟨h.fr FrE.want (h.1.want a b p) ⟨by rw [want_at (by decide)]; exact h.2.1.1, h.2.1.2⟩ ⟨by rw [want_at (by decide)]; exact h.2.2.1.1, h.2.2.1.2⟩, ⟨fun hs => ?_, fun hs => ?_⟩, by rw [want_cell (by decide)]⟩
  · have e : m_126 a b p v = v := by
      unfold m_126
      rw [if_pos (h.2.2.2.1.1.trans hs)]
    rw [e]
    exact ⟨rfl, rfl, rfl, rfl, rfl, rfl⟩
  · obtain ⟨c, hc, _⟩ := h.pc
    refine ⟨c, hc, by rw [want_cell (by decide)]; exact hc, trivial, fun q k h1 h2 _ => by rw [want_cell (by omega)], want_at (by decide), ?_⟩
    have h4 := h.2.2.2.1.1
    unfold m_126 wt
    rw [if_neg (by omega)]
    by_cases hab : a = b
    · rw [if_pos hab, if_pos hab]; rfl
    · rw [if_neg hab, if_neg hab]
      show _ = (if v 22 9 = -1 then p else v 22 9)
      by_cases h9 : v 22 9 = -1
      · rw [if_pos h9, if_pos h9, up_k]
      · rw [if_neg h9, if_neg h9]
theorem CG.fnm {s : Int} {v : Mem} {u : Nat → Int} {n la i sg nb : Nat} {G : Fn} {L : Sc} (h : CG s v u n la i sg nb G L) (p : Nat) : CG s (m_125 (p : Int) v) u n la i sg nb G L ∧ OW s v (m_125 (p : Int) v) [] [p] [] ∧ m_125 (p : Int) v 8 3 = v 8 3 := by
  refine ⟨h.fr FrE.fnm (h.1.fnm p) ⟨by rw [fnm_at (by decide)]; exact h.2.1.1, h.2.1.2⟩ ⟨by rw [fnm_at (by decide)]; exact h.2.2.1.1, h.2.2.1.2⟩, ⟨fun hs => ?_, fun hs => ?_⟩, by rw [fnm_cell (by decide)]⟩
  · have e : m_125 (p : Int) v = v := by
      unfold m_125
      rw [if_pos (h.2.2.2.1.1.trans hs)]
    rw [e]
    exact ⟨rfl, rfl, rfl, rfl, rfl, rfl⟩
  · obtain ⟨c, hc, _⟩ := h.pc
    refine ⟨c, hc, by rw [fnm_cell (by decide)]; exact hc, trivial, fun q k h1 h2 _ => by rw [fnm_cell (by omega)], ?_, fnm_at (by decide)⟩
    have h4 := h.2.2.2.1.1
    unfold m_125
    rw [if_neg (by omega)]
    show _ = (if v 22 8 = -1 then (p : Int) else if (p : Int) < v 22 8 then (p : Int) else v 22 8)
    by_cases h9 : v 22 8 = -1
    · rw [if_pos h9, if_pos h9, up_k]
    · rw [if_neg h9, if_neg h9]
      by_cases h7 : (p : Int) < v 22 8
      · rw [if_pos h7, if_pos h7, up_k]
      · rw [if_neg h7, if_neg h7]
/-- an act is written (in the second walk) -/
theorem CG.act {s : Int} {v : Mem} {u : Nat → Int} {n la i sg nb : Nat} {G : Fn} {L : Sc} (h : CG s v u n la i sg nb G L) (a b c : Int) (ha : 0 ≤ a ∧ a < 128) (hr : s = 1 → v 8 3 ≤ 3050) : CG s (m_10 a b c v) u n la i sg nb G L ∧ OW s v (m_10 a b c v) [(a, b, c)] [] [] ∧ (s = 1 → m_10 a b c v 8 3 = v 8 3 + 1) ∧ (s = 1 → f_10 a b c v = v 8 3) := by
  obtain ⟨q, hq, hq2⟩ := h.pc
  have e22 : m_10 a b c v 22 = v 22 := act_cell (by omega)
  have em : s = 1 → m_10 a b c v = up (up (up (up v 9 q a) 10 q b) 11 q c) 8 3 ((q + 1 : Nat) : Int) := by
    intro hs
    have := hr hs
    unfold m_10
    rw [if_neg (by rw [h.2.2.2.1.2.1, hs]; decide), hq, if_neg (by omega), if_pos (by omega), Int.toNat_natCast, w8_id (by rw [w8_id (by omega) (by omega)]; omega) (by rw [w8_id (by omega) (by omega)]; omega), w8_id (by omega) (by omega), wNat (k := q + 1) (by omega) (by omega)]
  refine ⟨h.fr FrE.act (h.1.act a b c) ⟨by rw [e22]; exact h.2.1.1, h.2.1.2⟩ ⟨by rw [e22]; exact h.2.2.1.1, h.2.2.1.2⟩, ⟨fun hs => ?_, fun hs => ?_⟩, fun hs => ?_, fun hs => ?_⟩
  · rw [act_shut (h.2.2.2.1.2.1.trans hs)]
    exact ⟨rfl, rfl, rfl, rfl, rfl, rfl⟩
  · rw [em hs]
    refine ⟨q, hq, by rw [up_k]; rfl, ⟨⟨?_, ?_, ?_⟩, trivial⟩, fun e k h1 h2 h3 => ?_, rfl, rfl⟩
    · rw [up_ne (by decide), up_ne (by decide), up_ne (by decide), up_k]
    · rw [up_ne (by decide), up_ne (by decide), up_k]
    · rw [up_ne (by decide), up_k]
    · rw [upc_ne (by omega), upc_ne (by omega), upc_ne (by omega), upc_ne (by omega)]
  · rw [em hs, up_k, hq]; omega
  · have := hr hs
    unfold f_10
    rw [if_neg (by rw [h.2.2.2.1.2.1, hs]; decide), hq, if_neg (by omega), if_pos (by omega), wS (k := q) (m := 3101) (by omega) (by decide), wP1 (by omega)]
