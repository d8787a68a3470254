/-! From v0, at word i0, a walk has come to word i: what it has put out since, k the bytes that are left over for acts. -/
def GO (s : Int) (v0 v : Mem) (u : Nat → Int) (n la i0 i sg nb k : Nat) (G : Fn) (L : Sc) (a : Ac) (nf : List Nat) (tf : List Int) : Prop := CG s v u n la i sg nb G L ∧ FrE v0 v ∧ OW s v0 v a nf tf ∧ (s = 1 → v0 8 3 ≤ (ps u n i0 : Int) ∧ v 8 3 + (ps u n i0 : Int) + (k : Int) ≤ v0 8 3 + (ps u n i : Int)) ∧ i0 ≤ i
theorem GO.start {s : Int} {v : Mem} {u : Nat → Int} {n la i sg nb : Nat} {G : Fn} {L : Sc} (h : CG s v u n la i sg nb G L) (hr : s = 1 → v 8 3 ≤ (ps u n i : Int)) : GO s v v u n la i i sg nb 0 G L [] [] [] := by
  refine ⟨h, FrE.refl v, OW.nil (fun _ _ _ => rfl) rfl rfl (fun _ => ?_), fun hs => ⟨hr hs, by omega⟩, Nat.le_refl _⟩
  obtain ⟨c, hc, _⟩ := h.pc
  exact ⟨c, hc⟩
theorem GO.room {s : Int} {v0 v : Mem} {u : Nat → Int} {n la i0 i sg nb k : Nat} {G : Fn} {L : Sc} {a : Ac} {nf : List Nat} {tf : List Int} (h : GO s v0 v u n la i0 i sg nb k G L a nf tf) (hs : s = 1) : v 8 3 + (k : Int) ≤ (ps u n i : Int) ∧ v 8 3 + (k : Int) ≤ 3000 := by
  have h1 := h.2.2.2.1 hs
  have h2 := h.1.psn i
  omega
theorem GO.less {s : Int} {v0 v : Mem} {u : Nat → Int} {n la i0 i sg nb k k' : Nat} {G : Fn} {L : Sc} {a : Ac} {nf : List Nat} {tf : List Int} (h : GO s v0 v u n la i0 i sg nb k G L a nf tf) (hk : k' ≤ k) : GO s v0 v u n la i0 i sg nb k' G L a nf tf := ⟨h.1, h.2.1, h.2.2.1, fun hs => ⟨(h.2.2.2.1 hs).1, by have := (h.2.2.2.1 hs).2; omega⟩, h.2.2.2.2⟩
theorem GO.eq {s : Int} {v0 v : Mem} {u : Nat → Int} {n la i0 i sg nb k : Nat} {G : Fn} {L : Sc} {a b : Ac} {nf nf' : List Nat} {tf tf' : List Int} (h : GO s v0 v u n la i0 i sg nb k G L a nf tf) (h1 : s = 1 → a = b) (h2 : s = 1 → nf = nf') (h3 : s = 1 → tf = tf') : GO s v0 v u n la i0 i sg nb k G L b nf' tf' := ⟨h.1, h.2.1, h.2.2.1.eq h1 h2 h3, h.2.2.2⟩
theorem GO.pc {s : Int} {v0 v : Mem} {u : Nat → Int} {n la i0 i sg nb k : Nat} {G : Fn} {L : Sc} {a : Ac} {nf : List Nat} {tf : List Int} (h : GO s v0 v u n la i0 i sg nb k G L a nf tf) (hs : s = 1) : (v 8 3).toNat = (v0 8 3).toNat + a.length ∧ v 8 3 = ((v0 8 3).toNat + a.length : Nat) := by
  obtain ⟨pc, h1, h2, -⟩ := h.2.2.1.2 hs
  rw [h1, h2]
  exact ⟨by omega, by omega⟩
theorem OW.add {s : Int} {v v1 v2 : Mem} {a : Ac} {nf : List Nat} {tf : List Int} (h : OW s v v1 a nf tf) (h' : OW s v1 v2 [] [] []) : OW s v v2 a nf tf := by
  have := h.trans h'
  simp only [List.append_nil] at this
  exact this
theorem GO.nextL {s : Int} {v0 v : Mem} {u : Nat → Int} {n la i0 i sg nb k : Nat} {G : Fn} {L : Sc} {a : Ac} {nf : List Nat} {tf : List Int} (h : GO s v0 v u n la i0 i sg nb k G L a nf tf) (h0 : kd u n i ≠ 0) (l : Nat) (hl : ps u n i + l ≤ ps u n (i + 1)) : GO s v0 (m_122 v) u n la i0 (i + 1) sg nb (k + l) G L a nf tf := by
  obtain ⟨g, f, o, r, q⟩ := h
  obtain ⟨g1, g2, g3⟩ := g.next h0
  refine ⟨g1, f.trans FrE.next, o.add g2, fun hs => ⟨(r hs).1, ?_⟩, by omega⟩
  rw [g3]
  have := (r hs).2
  omega
theorem GO.next {s : Int} {v0 v : Mem} {u : Nat → Int} {n la i0 i sg nb k : Nat} {G : Fn} {L : Sc} {a : Ac} {nf : List Nat} {tf : List Int} (h : GO s v0 v u n la i0 i sg nb k G L a nf tf) (h0 : kd u n i ≠ 0) (h1 : kd u n i ≠ 1) : GO s v0 (m_122 v) u n la i0 (i + 1) sg nb (k + 1) G L a nf tf := h.nextL h0 1 (h.1.adv i h0 h1)
theorem GO.expect {s : Int} {v0 v : Mem} {u : Nat → Int} {n la i0 i sg nb k : Nat} {G : Fn} {L : Sc} {a : Ac} {nf : List Nat} {tf : List Int} {c : Int} (h : GO s v0 v u n la i0 i sg nb k G L a nf tf) (hc : c ≠ 0 ∧ c ≠ 1) : (kd u n i = c ∧ GO s v0 (m_123 c v) u n la i0 (i + 1) sg nb (k + 1) G L a nf tf) ∨ (¬ kd u n i = c ∧ CXf v0 (m_123 c v) u n la i) := by
  rcases h.1.1.expect hc.1 with ⟨h1, h2, h3, h4⟩ | ⟨h1, h2, h3⟩
  · rw [h3]
    exact Or.inl ⟨h1, h.next (by omega) (by omega)⟩
  · exact Or.inr ⟨h1, h3, h.2.1.trans FrE.expect⟩
theorem GO.sign {s : Int} {v0 v : Mem} {u : Nat → Int} {n la i0 i sg nb k : Nat} {G : Fn} {L : Sc} {a : Ac} {nf : List Nat} {tf : List Int} (h : GO s v0 v u n la i0 i sg nb k G L a nf tf) : (sg < 40 ∧ GO s v0 (m_119 v) u n la i0 i (sg + 1) nb k G L a nf tf) ∨ (40 ≤ sg ∧ CXf v0 (m_119 v) u n la i) := by
  rcases h.1.sign with ⟨h1, h2, h3, h4⟩ | ⟨h1, h2⟩
  · refine Or.inl ⟨h1, h2, h.2.1.trans FrE.sign, h.2.2.1.add h3, fun hs => ?_, h.2.2.2.2⟩
    rw [h4]
    exact h.2.2.2.1 hs
  · exact Or.inr ⟨h1, h2.1, h.2.1.trans h2.2⟩
theorem GO.opn {s : Int} {v0 v : Mem} {u : Nat → Int} {n la i0 i sg nb k : Nat} {G : Fn} {L : Sc} {a : Ac} {nf : List Nat} {tf : List Int} {c : Int} (h : GO s v0 v u n la i0 i sg nb k G L a nf tf) (hc : c ≠ 0 ∧ c ≠ 1) : (kd u n i = c ∧ nb < 8 ∧ GO s v0 (m_117 c v) u n la i0 (i + 1) sg (nb + 1) (k + 1) G L a nf tf) ∨ (¬ (kd u n i = c ∧ nb < 8) ∧ CXf v0 (m_117 c v) u n la i) := by
  rcases h.1.opn hc.1 with ⟨h1, h2, h3, h4, h5⟩ | ⟨h1, h2⟩
  · refine Or.inl ⟨h1, h2, h3, h.2.1.trans FrE.opn, h.2.2.1.add h4, fun hs => ⟨(h.2.2.2.1 hs).1, ?_⟩, by have := h.2.2.2.2; omega⟩
    rw [h5]
    have := (h.2.2.2.1 hs).2
    have := h.1.adv i (by omega) (by omega)
    omega
  · exact Or.inr ⟨h1, h2.1, h.2.1.trans h2.2⟩
theorem GO.shut {s : Int} {v0 v : Mem} {u : Nat → Int} {n la i0 i sg nb k : Nat} {G : Fn} {L : Sc} {a : Ac} {nf : List Nat} {tf : List Int} {c : Int} (h : GO s v0 v u n la i0 i sg (nb + 1) k G L a nf tf) (hc : c ≠ 0 ∧ c ≠ 1) : (kd u n i = c ∧ GO s v0 (m_118 c v) u n la i0 (i + 1) sg nb (k + 1) G L a nf tf) ∨ (¬ kd u n i = c ∧ CXf v0 (m_118 c v) u n la i) := by
  rcases h.1.shut hc.1 with ⟨h1, h3, h4, h5⟩ | ⟨h1, h2⟩
  · refine Or.inl ⟨h1, h3, h.2.1.trans FrE.shut, h.2.2.1.add h4, fun hs => ⟨(h.2.2.2.1 hs).1, ?_⟩, by have := h.2.2.2.2; omega⟩
    rw [h5]
    have := (h.2.2.2.1 hs).2
    have := h.1.adv i (by omega) (by omega)
    omega
  · exact Or.inr ⟨h1, h2.1, h.2.1.trans h2.2⟩
theorem GO.want {s : Int} {v0 v : Mem} {u : Nat → Int} {n la i0 i sg nb k : Nat} {G : Fn} {L : Sc} {a : Ac} {nf : List Nat} {tf : List Int} (h : GO s v0 v u n la i0 i sg nb k G L a nf tf) (x y p : Int) : GO s v0 (m_126 x y p v) u n la i0 i sg nb k G L a nf (tf ++ wt x y p) := by
  obtain ⟨h1, h2, h3⟩ := h.1.want x y p
  refine ⟨h1, h.2.1.trans FrE.want, ?_, fun hs => by rw [h3]; exact h.2.2.2.1 hs, h.2.2.2.2⟩
  have := h.2.2.1.trans h2
  simp only [List.append_nil] at this
  exact this
theorem GO.fnm {s : Int} {v0 v : Mem} {u : Nat → Int} {n la i0 i sg nb k : Nat} {G : Fn} {L : Sc} {a : Ac} {nf : List Nat} {tf : List Int} (h : GO s v0 v u n la i0 i sg nb k G L a nf tf) (p : Nat) : GO s v0 (m_125 (p : Int) v) u n la i0 i sg nb k G L a (nf ++ [p]) tf := by
  obtain ⟨h1, h2, h3⟩ := h.1.fnm p
  refine ⟨h1, h.2.1.trans FrE.fnm, ?_, fun hs => by rw [h3]; exact h.2.2.2.1 hs, h.2.2.2.2⟩
  have := h.2.2.1.trans h2
  simp only [List.append_nil] at this
  exact this
theorem GO.act {s : Int} {v0 v : Mem} {u : Nat → Int} {n la i0 i sg nb k : Nat} {G : Fn} {L : Sc} {a : Ac} {nf : List Nat} {tf : List Int} (h : GO s v0 v u n la i0 i sg nb (k + 1) G L a nf tf) (x y z : Int) (hx : 0 ≤ x ∧ x < 128) : GO s v0 (m_10 x y z v) u n la i0 i sg nb k G L (a ++ [(x, y, z)]) nf tf ∧ (s = 1 → f_10 x y z v = ((v0 8 3).toNat + a.length : Nat)) ∧ (s = 0 → f_10 x y z v = -1) := by
  obtain ⟨h1, h2, h3, h4⟩ := h.1.act x y z hx (fun hs => by have := (h.room hs).2; omega)
  refine ⟨⟨h1, h.2.1.trans FrE.act, ?_, fun hs => ⟨(h.2.2.2.1 hs).1, ?_⟩, h.2.2.2.2⟩, fun hs => ?_, fun hs => ?_⟩
  · have := h.2.2.1.trans h2
    simp only [List.append_nil] at this
    exact this
  · rw [h3 hs]
    have := (h.2.2.2.1 hs).2
    omega
  · rw [h4 hs]
    exact (h.pc hs).2
  · unfold f_10
    rw [if_pos (h.1.2.2.2.1.2.1.trans hs)]
/-- an act that is written ahead of its word's end -/
theorem GO.act0 {s : Int} {v0 v : Mem} {u : Nat → Int} {n la i0 i sg nb k : Nat} {G : Fn} {L : Sc} {a : Ac} {nf : List Nat} {tf : List Int} (h : GO s v0 v u n la i0 i sg nb k G L a nf tf) (x y z : Int) (hx : 0 ≤ x ∧ x < 128) (h0 : kd u n i ≠ 0) (h1 : kd u n i ≠ 1) : GO s v0 (m_122 (m_10 x y z v)) u n la i0 (i + 1) sg nb k G L (a ++ [(x, y, z)]) nf tf := by
  obtain ⟨g1, g2, g3, g4⟩ := h.1.act x y z hx (fun hs => by have := (h.room hs).2; omega)
  obtain ⟨b1, b2, b3⟩ := g1.next h0
  refine ⟨b1, (h.2.1.trans FrE.act).trans FrE.next, ?_, fun hs => ⟨(h.2.2.2.1 hs).1, ?_⟩, by have := h.2.2.2.2; omega⟩
  · have := (h.2.2.1.trans g2).add b2
    simp only [List.append_nil] at this
    exact this
  · rw [b3, g3 hs]
    have := (h.2.2.2.1 hs).2
    have := h.1.adv i h0 h1
    omega
/-- a jump that was written with no aim is aimed at what comes next -/
theorem OW.aim {s : Int} {v0 v : Mem} {a b : Ac} {x y z idx : Int} {nf : List Nat} {tf : List Int} (h : OW s v0 v (a ++ (x, y, z) :: b) nf tf) (h1 : s = 1 → idx = ((v0 8 3).toNat + a.length : Nat)) (h0 : s = 0 → idx = -1) : OW s v0 (aimM idx v) (a ++ (x, (((v0 8 3).toNat + a.length + 1 + b.length : Nat) : Int), z) :: b) nf tf := by
  refine ⟨fun hs => ?_, fun hs => ?_⟩
  · have e : aimM idx v = v := if_neg (by rw [h0 hs]; omega)
    rw [e]
    exact h.1 hs
  · obtain ⟨pc, q1, q2, q3, q4, q5, q6⟩ := h.2 hs
    have e1 : (v0 8 3).toNat = pc := by rw [q1, Int.toNat_natCast]
    have hl : (a ++ (x, y, z) :: b).length = a.length + (b.length + 1) := by rw [List.length_append, List.length_cons]
    have e : aimM idx v = up v 10 (pc + a.length) ((pc + a.length + 1 + b.length : Nat) : Int) := by
      unfold aimM
      rw [h1 hs, e1, q2, hl, if_pos (by omega), Int.toNat_natCast]
      congr 2
      omega
    rw [e1, e]
    have q3' := (AtC_app a _ pc).mp q3
    refine ⟨pc, q1, ?_, (AtC_app a _ pc).mpr ⟨AtC_same a pc (fun c k _ _ _ h4 => upc_ne (by omega)) q3'.1, ⟨⟨?_, up_k, ?_⟩, AtC_same b _ (fun c k _ _ h3 _ => upc_ne (by omega)) q3'.2.2⟩⟩, fun c k c1 c2 c3 => ?_, ?_, ?_⟩
    · rw [up_ne (by decide), q2, hl, List.length_append, List.length_cons]
    · rw [up_ne (by decide)]; exact q3'.2.1.1
    · rw [up_ne (by decide)]; exact q3'.2.1.2.2
    · rw [upc_ne (by omega)]; exact q4 c k c1 c2 c3
    · rw [up_ne (by decide)]; exact q5
    · rw [up_ne (by decide)]; exact q6
theorem GO.aim {s : Int} {v0 v : Mem} {u : Nat → Int} {n la i0 i sg nb k : Nat} {G : Fn} {L : Sc} {a b : Ac} {x y z idx : Int} {nf : List Nat} {tf : List Int} (h : GO s v0 v u n la i0 i sg nb k G L (a ++ (x, y, z) :: b) nf tf) (h1 : s = 1 → idx = ((v0 8 3).toNat + a.length : Nat)) (h0 : s = 0 → idx = -1) : GO s v0 (aimM idx v) u n la i0 i sg nb k G L (a ++ (x, (((v0 8 3).toNat + a.length + 1 + b.length : Nat) : Int), z) :: b) nf tf := by
  have e : aimM idx v 22 = v 22 := aim_cell (by decide)
  refine ⟨h.1.fr FrE.aim (h.1.1.aim idx) (by rw [e]; exact h.1.2.1) (by rw [e]; exact h.1.2.2.1), h.2.1.trans FrE.aim, h.2.2.1.aim h1 h0, fun hs => ?_, h.2.2.2.2⟩
  rw [aim_cell (by decide)]
  exact h.2.2.2.1 hs
/-- what is read next -/
theorem GO.sub {s : Int} {v0 v v' : Mem} {u : Nat → Int} {n la i0 i i' sg nb sg' nb' k : Nat} {G : Fn} {L : Sc} {a : Ac} {nf nf' : List Nat} {tf tf' : List Int} {e : Jvm.Term} (h : GO s v0 v u n la i0 i sg nb k G L a nf tf) (h' : GO s v v' u n la i i' sg' nb' 0 G L (coE u n G L e (v 8 3).toNat) nf' tf') : GO s v0 v' u n la i0 i' sg' nb' k G L (a ++ coE u n G L e ((v0 8 3).toNat + a.length)) (nf ++ nf') (tf ++ tf') := by
  refine ⟨h'.1, h.2.1.trans h'.2.1, (h.2.2.1.trans h'.2.2.1).eq (fun hs => ?_) (fun _ => rfl) (fun _ => rfl), fun hs => ⟨(h.2.2.2.1 hs).1, ?_⟩, Nat.le_trans h.2.2.2.2 h'.2.2.2.2⟩
  · rw [(h.pc hs).1]
  · have h1 := (h.2.2.2.1 hs).2
    have h2 := (h'.2.2.2.1 hs).2
    omega
theorem CXf.of {v0 v v' : Mem} {u : Nat → Int} {n la j : Nat} (f : FrE v0 v) (h : CXf v v' u n la j) : CXf v0 v' u n la j := ⟨h.1, f.trans h.2⟩
/-! What is asked of Q so that a part of an E may be read. -/
def PoC (s : Int) (Q : Int → Mem → Prop) (v0 : Mem) (u : Nat → Int) (n la nb sg i0 : Nat) (G : Fn) (L : Sc) (r : Except Nat (Jvm.Term × Nat × Nat)) : Prop := match r with
  | .error j => ∀ x v', CXf v0 v' u n la j → Q x v'
  | .ok q => ∀ x v', GO s v0 v' u n la i0 q.2.1 q.2.2 nb 0 G L (coE u n G L q.1 (v0 8 3).toNat) (nfE u n G L q.1) (tfE u n G L [] q.1) → (s = 1 → x = tyE u n G L q.1) → fstT u n q.1 = (ps u n i0 : Int) → sg ≤ q.2.2 → Q x v'
def KE (s t : Int) (u : Nat → Int) (n la : Nat) (G : Fn) (L : Sc) (f : Nat) : Prop := ∀ (l : Nat) (x : Jvm.Term) (i sg nb : Nat) (r : Except Nat (Jvm.Term × Nat × Nat)), l ≤ 5 → PE (kd u n) f l x i sg nb = some r → ∀ (d : Nat) (v : Mem) (Q : Int → Mem → Prop), dN nb sg (12 - l) ≤ d → CG s v u n la i sg nb G L → (s = 1 → v 8 3 ≤ (ps u n i : Int)) → PoC s Q v u n la nb sg i G L r → RR t d 100 [(2, 22), (0, (l : Int))] v Q
def KF (s t : Int) (u : Nat → Int) (n la : Nat) (G : Fn) (L : Sc) (f : Nat) : Prop := ∀ (x : Jvm.Term) (i sg nb : Nat) (r : Except Nat (Jvm.Term × Nat × Nat)), PE (kd u n) f 5 x i sg nb = some r → ∀ (d : Nat) (v : Mem) (Q : Int → Mem → Prop), dN nb sg 6 ≤ d → CG s v u n la i sg nb G L → (s = 1 → v 8 3 ≤ (ps u n i : Int)) → PoC s Q v u n la nb sg i G L r → RR t d 105 [(2, 22)] v Q
def KP (s t : Int) (u : Nat → Int) (n la : Nat) (G : Fn) (L : Sc) (f : Nat) : Prop := ∀ (x : Jvm.Term) (i sg nb : Nat) (r : Except Nat (Jvm.Term × Nat × Nat)), PE (kd u n) f 6 x i sg nb = some r → ∀ (d : Nat) (v : Mem) (Q : Int → Mem → Prop), dN nb sg 5 ≤ d → CG s v u n la i sg nb G L → (s = 1 → v 8 3 ≤ (ps u n i : Int)) → PoC s Q v u n la nb sg i G L r → RR t d 106 [(2, 22)] v Q
def KA (s t : Int) (u : Nat → Int) (n la : Nat) (G : Fn) (L : Sc) (f : Nat) : Prop := ∀ (x : Jvm.Term) (i sg nb : Nat) (r : Except Nat (Jvm.Term × Nat × Nat)), PE (kd u n) f 7 x i sg nb = some r → ∀ (d : Nat) (v : Mem) (Q : Int → Mem → Prop), dN nb sg 4 ≤ d → CG s v u n la i sg nb G L → (s = 1 → v 8 3 ≤ (ps u n i : Int)) → PoC s Q v u n la nb sg i G L r → RR t d 108 [(2, 22)] v Q
def KL (s t : Int) (u : Nat → Int) (n la : Nat) (G : Fn) (L : Sc) (f : Nat) : Prop := ∀ (l : Nat) (x : Jvm.Term) (i sg nb : Nat) (r : Except Nat (Jvm.Term × Nat × Nat)), l < 5 → PE (kd u n) f (l + 10) x i sg nb = some r → ∀ (d : Nat) (v0 v : Mem) (Q : Int → Mem → Prop) (i0 sg0 c : Nat) (ty : Int), dN nb sg (12 - l) ≤ d → GO s v0 v u n la i0 i sg nb 0 G L (coE u n G L x (v0 8 3).toNat) (nfE u n G L x) (tfE u n G L [] x) → (s = 1 → ty = tyE u n G L x) → fstT u n x = (ps u n i0 : Int) → sg0 ≤ sg → c ≤ sg → (l = 2 → c = 0) → PoC s Q v0 u n la nb sg0 i0 G L r → LL t d 100 39 [(2, 22), (0, (l : Int)), (0, (ps u n i0 : Int)), (0, ty), (0, if l = 2 then 1 else 41), (0, (c : Int)), (3, 0)] [] v Q
def KQ (s t : Int) (u : Nat → Int) (n la : Nat) (G : Fn) (L : Sc) (f : Nat) : Prop := ∀ (x : Jvm.Term) (i sg nb : Nat) (r : Except Nat (Jvm.Term × Nat × Nat)), PE (kd u n) f 16 x i sg nb = some r → ∀ (d : Nat) (v0 v : Mem) (Q : Int → Mem → Prop) (i0 sg0 c : Nat) (ty : Int), dN nb sg 5 ≤ d → GO s v0 v u n la i0 i sg nb 0 G L (coE u n G L x (v0 8 3).toNat) (nfE u n G L x) (tfE u n G L [] x) → (s = 1 → ty = tyE u n G L x) → fstT u n x = (ps u n i0 : Int) → sg0 ≤ sg → c ≤ sg → PoC s Q v0 u n la nb sg0 i0 G L r → LL t d 106 12 [(2, 22), (0, (ps u n i0 : Int)), (0, ty), (0, (c : Int))] [] v Q
/-- an E of which a type is wanted -/
theorem rowOf_k {s t : Int} {u : Nat → Int} {n la : Nat} {G : Fn} {L : Sc} {f : Nat} (hE : KE s t u n la G L f) {x : Jvm.Term} {i sg nb : Nat} {r : Except Nat (Jvm.Term × Nat × Nat)} (hp : PE (kd u n) f 0 x i sg nb = some r) {d k : Nat} {v0 v : Mem} {Q : Int → Mem → Prop} {i0 : Nat} {a : Ac} {nf : List Nat} {tf : List Int} {due : Int} (hd : dN nb sg 12 + 1 ≤ d) (h : GO s v0 v u n la i0 i sg nb k G L a nf tf)
    (he : ∀ j v', r = .error j → CXf v0 v' u n la j → Q 0 v') (hk : ∀ e i1 s1 v', r = .ok (e, i1, s1) → GO s v0 v' u n la i0 i1 s1 nb k G L (a ++ coE u n G L e ((v0 8 3).toNat + a.length)) (nf ++ nfE u n G L e) (tf ++ (tfE u n G L [] e ++ wt due (tyE u n G L e) (fstT u n e))) → sg ≤ s1 → Q 0 v') : RR t d 99 [(2, 22), (0, due)] v Q := by
  obtain ⟨d', rfl⟩ : ∃ d', d = d' + 2 := ⟨d - 2, by unfold dN at hd; omega⟩
  refine s_99 (hE 0 x i sg nb r (by omega) hp (d' + 1) v _ (by unfold dN at *; omega) h.1 (fun hs => by have := (h.room hs).1; omega) ?_)
  rw [h.1.place]
  match r, he, hk with
  | .error j, he, hk => exact fun x v' hx => he j _ rfl ((hx.of h.2.1).want _ _ _)
  | .ok (e, i1, s1), he, hk =>
    intro y v' g hy hf hs1
    dsimp only at g hy hf hs1
    have g2 := (h.sub g).want due y ((ps u n i : Nat) : Int)
    refine hk e i1 s1 _ rfl (g2.eq (fun _ => rfl) (fun _ => rfl) (fun hs => ?_)) hs1
    rw [hy hs, hf, List.append_assoc]
theorem GO.h8 {s : Int} {v0 v : Mem} {u : Nat → Int} {n la i0 i sg nb k : Nat} {G : Fn} {L : Sc} {a : Ac} {nf : List Nat} {tf : List Int} (h : GO s v0 v u n la i0 i sg nb k G L a nf tf) : ∃ c : Nat, v0 8 3 = c ∧ c ≤ 3100 := by
  obtain ⟨c, hc, hc2⟩ := h.1.pc
  rcases h.1.2.2.2.1.2.2 with hs | hs
  · rw [← (h.2.2.1.1 hs).1]
    exact ⟨c, hc, hc2⟩
  · obtain ⟨pc, p1, p2, -⟩ := h.2.2.1.2 hs
    exact ⟨pc, p1, by rw [p2] at hc; omega⟩
theorem CG.adv2 {s : Int} {v : Mem} {u : Nat → Int} {n la i sg nb : Nat} {G : Fn} {L : Sc} (h : CG s v u n la i sg nb G L) (j l : Nat) (h1 : 10 ≤ kd u n j) (hV : ∀ q ∈ VL, q.2 = kd u n j → l ≤ q.1.length) : ps u n j + l ≤ ps u n (j + 1) := by
  have e := h.u
  generalize v 12 = b at e
  subst e
  exact ps_adv2 h1 hV
