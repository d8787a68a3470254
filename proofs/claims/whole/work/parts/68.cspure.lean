/-! What the class's second walk makes of an S and of a BLOCK, purely. rt: the TYPE of the FUNCTION. -/
/-- the locals in scope behind an S, or behind the S of a BLOCK -/
def scB (u : Nat → Int) (n : Nat) (G : Fn) : Sc → Jvm.Term → Sc
  | L, .sub s r => scB u n G (scB u n G L s) r
  | L, .elem (.arg i) (.sub e _) => if kd u n i = 19 then L ++ [(vl u n (i + 1), tyE u n G L e)] else L
  | L, _ => L
/-- at the end of a BLOCK -/
def clr (L L' : Sc) : Ac := if L.length < L'.length then [(11, (L.length : Int), ((L'.length - L.length : Nat) : Int))] else []
def nfB (u : Nat → Int) (n : Nat) (G : Fn) : Sc → Jvm.Term → List Nat
  | L, .sub s r => nfB u n G L s ++ nfB u n G (scB u n G L s) r
  | L, .elem (.arg i) (.sub e (.sub b c)) =>
    if kd u n i = 19 then (if slt L (vl u n (i + 1)) = -1 then [] else [ps u n (i + 1)]) ++ nfE u n G L e
    else if kd u n i = 2 then (if slt L (vl u n i) = -1 then [ps u n i] else []) ++ nfE u n G L e
    else nfE u n G L e ++ (nfB u n G L b ++ nfB u n G L c)
  | _, _ => []
def tfB (u : Nat → Int) (n : Nat) (G : Fn) (rt : Int) : Sc → Jvm.Term → List Int
  | L, .sub s r => tfB u n G rt L s ++ tfB u n G rt (scB u n G L s) r
  | L, .elem (.arg i) (.sub e (.sub b c)) =>
    if kd u n i = 19 ∨ kd u n i = 21 ∨ kd u n i = 12 then tfE u n G L [] e
    else if kd u n i = 2 then tfE u n G L [] e ++ wt (slT L (vl u n i)) (tyE u n G L e) (fstT u n e)
    else if kd u n i = 22 then tfE u n G L [] e ++ wt rt (tyE u n G L e) (fstT u n e)
    else (tfE u n G L [] e ++ wt 0 (tyE u n G L e) (fstT u n e)) ++ (tfB u n G rt L b ++ tfB u n G rt L c)
  | _, _ => []
/-- the most locals at once -/
def mxB (u : Nat → Int) (n : Nat) (G : Fn) : Nat → Sc → Jvm.Term → Nat
  | m, L, .sub s r => mxB u n G (mxB u n G m L s) (scB u n G L s) r
  | m, L, .elem (.arg i) (.sub _ (.sub b c)) => if kd u n i = 19 then max m (L.length + 1) else mxB u n G (mxB u n G m L b) L c
  | m, _, _ => m
def coB (u : Nat → Int) (n : Nat) (G : Fn) : Sc → Jvm.Term → Nat → Ac
  | L, .sub s r, pc => coB u n G L s pc ++ coB u n G (scB u n G L s) r (pc + (coB u n G L s pc).length)
  | L, .elem (.arg i) (.sub e (.sub b c)), pc =>
    if kd u n i = 19 then (0, 0, 0) :: (coE u n G L e (pc + 1) ++ [(10, (L.length : Int), 0), (1, 0, 0)])
    else if kd u n i = 2 then (0, 0, 0) :: (coE u n G L e (pc + 1) ++ [(10, slt L (vl u n i), 0), (1, 0, 0)])
    else if kd u n i = 22 then (0, 0, 0) :: (coE u n G L e (pc + 1) ++ [(6, 0, 0), (1, 0, 0)])
    else if kd u n i = 21 then (0, 0, 0) :: (coE u n G L e (pc + 1) ++ [(13, tyE u n G L e, 0), (1, 0, 0)])
    else if kd u n i = 12 then (0, 0, 0) :: (coE u n G L e (pc + 1) ++ [(12, 0, 0), (1, 0, 0)])
    else if kd u n i = 25 then
      (0, 0, 0) :: (coE u n G L e (pc + 1) ++ (3, ((pc + 1 + (coE u n G L e (pc + 1)).length + 1 + 1 + (coB u n G L b (pc + 1 + (coE u n G L e (pc + 1)).length + 1 + 1) ++ clr L (scB u n G L b)).length + 1 : Nat) : Int), 0) :: (0, 0, 0) :: ((coB u n G L b (pc + 1 + (coE u n G L e (pc + 1)).length + 1 + 1) ++ clr L (scB u n G L b)) ++ [(2, ((pc + 1 : Nat) : Int), 0), (1, 0, 0)]))
    else match c with
      | .thrown => (0, 0, 0) :: (coE u n G L e (pc + 1) ++ (3, ((pc + 1 + (coE u n G L e (pc + 1)).length + 1 + (coB u n G L b (pc + 1 + (coE u n G L e (pc + 1)).length + 1) ++ clr L (scB u n G L b)).length : Nat) : Int), 0) :: ((coB u n G L b (pc + 1 + (coE u n G L e (pc + 1)).length + 1) ++ clr L (scB u n G L b)) ++ [(1, 0, 0)]))
      | c => (0, 0, 0) :: (coE u n G L e (pc + 1) ++ (3, ((pc + 1 + (coE u n G L e (pc + 1)).length + 1 + (coB u n G L b (pc + 1 + (coE u n G L e (pc + 1)).length + 1) ++ clr L (scB u n G L b)).length + 1 : Nat) : Int), 0) :: ((coB u n G L b (pc + 1 + (coE u n G L e (pc + 1)).length + 1) ++ clr L (scB u n G L b)) ++
        (2, ((pc + 1 + (coE u n G L e (pc + 1)).length + 1 + (coB u n G L b (pc + 1 + (coE u n G L e (pc + 1)).length + 1) ++ clr L (scB u n G L b)).length + 1 + (coB u n G L c (pc + 1 + (coE u n G L e (pc + 1)).length + 1 + (coB u n G L b (pc + 1 + (coE u n G L e (pc + 1)).length + 1) ++ clr L (scB u n G L b)).length + 1) ++ clr L (scB u n G L c)).length : Nat) : Int), 0) ::
        ((coB u n G L c (pc + 1 + (coE u n G L e (pc + 1)).length + 1 + (coB u n G L b (pc + 1 + (coE u n G L e (pc + 1)).length + 1) ++ clr L (scB u n G L b)).length + 1) ++ clr L (scB u n G L c)) ++ [(1, 0, 0)])))
  | _, _, _ => []
/-- what a BLOCK comes to -/
def coK (u : Nat → Int) (n : Nat) (G : Fn) (L : Sc) (b : Jvm.Term) (pc : Nat) : Ac := coB u n G L b pc ++ clr L (scB u n G L b)
theorem scB_pre {u : Nat → Int} {n : Nat} {G : Fn} : ∀ (b : Jvm.Term) (L : Sc), ∃ M, scB u n G L b = L ++ M := by
  intro b
  induction b with
  | sub s r ih1 ih2 =>
    intro L
    obtain ⟨M1, h1⟩ := ih1 L
    obtain ⟨M2, h2⟩ := ih2 (scB u n G L s)
    refine ⟨M1 ++ M2, ?_⟩
    show scB u n G (scB u n G L s) r = _
    rw [h2, h1, List.append_assoc]
  | elem s r ih1 ih2 =>
    intro L
    unfold scB
    split
    · rename_i h; cases h
    · split
      · exact ⟨_, rfl⟩
      · exact ⟨[], (List.append_nil _).symm⟩
    · exact ⟨[], (List.append_nil _).symm⟩
  | _ => intro L; exact ⟨[], (List.append_nil _).symm⟩
/-! A walk over S. -/
/-- what a walk leaves alone while it reads S -/
def FrS (v v' : Mem) : Prop := (∀ c, (c < 8 ∨ 11 < c) → c ≠ 22 → (c < 28 ∨ 30 < c) → v' c = v c) ∧ (∀ k, (k < 6 ∨ k = 7 ∨ k = 11 ∨ 15 < k) → v' 22 k = v 22 k) ∧ v' 8 4 = v 8 4 ∧ ((∃ c : Nat, v 8 3 = c ∧ c ≤ 3100) → ∃ c : Nat, v' 8 3 = c ∧ c ≤ 3100) ∧ ((∃ c : Nat, v 28 2 = c ∧ c ≤ 30) → ∃ c : Nat, v' 28 2 = c ∧ c ≤ 30)
theorem FrS.refl (v : Mem) : FrS v v := ⟨fun _ _ _ _ => rfl, fun _ _ => rfl, rfl, fun h => h, fun h => h⟩
theorem FrS.trans {v v1 v2 : Mem} (h : FrS v v1) (h' : FrS v1 v2) : FrS v v2 := ⟨fun c a b e => (h'.1 c a b e).trans (h.1 c a b e), fun k hk => (h'.2.1 k hk).trans (h.2.1 k hk), h'.2.2.1.trans h.2.2.1, fun q => h'.2.2.2.1 (h.2.2.2.1 q), fun q => h'.2.2.2.2 (h.2.2.2.2 q)⟩
theorem FrS.of {v v' : Mem} (h : FrE v v') : FrS v v' := ⟨fun c a b _ => h.1 c a b, fun k hk => h.2.1 k (by omega), h.2.2.1, h.2.2.2, fun q => by rw [h.1 28 (by omega) (by omega)]; exact q⟩
theorem FrS.u22 {v : Mem} {k : Nat} {a : Int} (hk : k = 6 ∨ (8 ≤ k ∧ k ≤ 10) ∨ (12 ≤ k ∧ k ≤ 15)) : FrS v (up v 22 k a) := ⟨fun c _ h _ => up_ne h, fun j hj => up_nk (by omega), by rw [up_ne (by decide)], fun h => by rw [up_ne (by decide)]; exact h, fun h => by rw [up_ne (by decide)]; exact h⟩
theorem FrS.add {v : Mem} {a b : Int} : FrS v (m_130 a b v) := by
  unfold m_130
  split
  · exact FrS.refl v
  · split
    · rename_i h1 h2
      refine ⟨fun c q1 q2 q3 => ?_, fun k _ => rfl, rfl, fun h => h, ?_⟩
      · rw [up_ne (by omega), up_ne (by omega), up_ne (by omega), up_ne (by omega)]
      · rintro ⟨q, e1, e2⟩
        refine ⟨q + 1, ?_, by omega⟩
        rw [up_nk (by decide), up_k, e1]
        exact wNat (by omega) (by omega)
    · exact FrS.refl v
/-- behind a fault of THE TEXT, seen from v0, among S -/
def CXs (v0 v : Mem) (u : Nat → Int) (n la j : Nat) : Prop := CF v u n la j ∧ FrS v0 v
theorem CXs.of {v0 v v' : Mem} {u : Nat → Int} {n la j : Nat} (f : FrS v0 v) (h : CXf v v' u n la j) : CXs v0 v' u n la j := ⟨h.1, f.trans (FrS.of h.2)⟩
theorem CXs.to {v0 v : Mem} {u : Nat → Int} {n la j : Nat} (h : CXs v0 v u n la j) : CXf v v u n la j := ⟨h.1, FrE.refl v⟩
theorem CXs.via {v0 v v' : Mem} {u : Nat → Int} {n la j : Nat} (h : CXs v0 v u n la j) (h' : CXf v v' u n la j) : CXs v0 v' u n la j := CXs.of h.2 h'
theorem CXs.act {v0 v : Mem} {u : Nat → Int} {n la j : Nat} (h : CXs v0 v u n la j) (a b c : Int) : CXs v0 (m_10 a b c v) u n la j := h.via (h.to.act a b c)
theorem CXs.fnm {v0 v : Mem} {u : Nat → Int} {n la j : Nat} (h : CXs v0 v u n la j) (a : Int) : CXs v0 (m_125 a v) u n la j := h.via (h.to.fnm a)
theorem CXs.aim {v0 v : Mem} {u : Nat → Int} {n la j : Nat} (h : CXs v0 v u n la j) (a : Int) : CXs v0 (aimM a v) u n la j := h.via (h.to.aim a)
theorem CXs.next {v0 v : Mem} {u : Nat → Int} {n la j : Nat} (h : CXs v0 v u n la j) : CXs v0 (m_122 v) u n la j := h.via h.to.next
theorem CXs.expect {v0 v : Mem} {u : Nat → Int} {n la j : Nat} (h : CXs v0 v u n la j) (k : Int) : CXs v0 (m_123 k v) u n la j := h.via (h.to.expect k)
theorem CF.add {v : Mem} {u : Nat → Int} {n la j : Nat} (h : CF v u n la j) (a b : Int) : CF (m_130 a b v) u n la j := by
  have f := FrS.add (v := v) (a := a) (b := b)
  have e22 : m_130 a b v 22 = v 22 := by
    unfold m_130
    split
    · rfl
    · split <;> rfl
  exact ⟨h.1.keep (fun c hc => f.1 c (by omega) (by omega) (by omega)) (by rw [e22]), by rw [e22]; exact h.2.1, by rw [e22]; exact h.2.2⟩
theorem CXs.add {v0 v : Mem} {u : Nat → Int} {n la j : Nat} (h : CXs v0 v u n la j) (a b : Int) : CXs v0 (m_130 a b v) u n la j := ⟨h.1.add a b, h.2.trans FrS.add⟩
theorem CXs.u22 {v0 v : Mem} {u : Nat → Int} {n la j k : Nat} {a : Int} (h : CXs v0 v u n la j) (hk : 12 ≤ k ∧ k ≤ 15) : CXs v0 (up v 22 k a) u n la j := ⟨h.1.u22 (by omega), h.2.trans (FrS.u22 (by omega))⟩
theorem CXs.row {t : Int} {v0 v : Mem} {u : Nat → Int} {n la j D : Nat} {Q : Int → Mem → Prop} (h : CXs v0 v u n la j) (hD : 10 ≤ D) (hq : Q 0 v) : RR t D 100 [(2, 22), (0, 0)] v Q := h.to.row (l := 0) (by omega) hD hq
theorem CXs.rowOf {t : Int} {v0 v : Mem} {u : Nat → Int} {n la j D : Nat} {Q : Int → Mem → Prop} {a : Int} (h : CXs v0 v u n la j) (hD : 11 ≤ D) (hq : ∀ v', CXs v0 v' u n la j → Q 0 v') : RR t D 99 [(2, 22), (0, a)] v Q := h.to.rowOf hD (fun v' h' => hq v' (h.via h'))
theorem CXs.blk {t : Int} {v0 v : Mem} {u : Nat → Int} {n la j D : Nat} {Q : Int → Mem → Prop} (h : CXs v0 v u n la j) (h0 : ∃ c : Nat, v0 28 2 = c ∧ c ≤ 30) (hD : 2 ≤ D) (hq : Q 0 v) : RR t D 90 [(2, 22)] v Q := by
  obtain ⟨d, rfl⟩ : ∃ d, D = d + 2 := ⟨D - 2, by omega⟩
  obtain ⟨c, hc, _⟩ := h.2.2.2.2.2 h0
  exact cf_block h.1 (by omega) hq
theorem CXs.aimr {t : Int} {v0 v : Mem} {u : Nat → Int} {n la j D : Nat} {Q : Int → Mem → Prop} {z : Int} (h : CXs v0 v u n la j) (h8 : ∃ c : Nat, v0 8 3 = c ∧ c ≤ 3100) (hq : ∀ v', CXs v0 v' u n la j → Q 0 v') : RR t D 11 [(2, 8), (0, z)] v Q := by
  obtain ⟨c, hc, hc2⟩ := h.2.2.2.2.1 h8
  exact aim_rr (by rw [hc]; omega) (hq _ (h.aim z))
/-- at word i, whatever SIGNS and brackets are -/
def CG0 (s : Int) (v : Mem) (u : Nat → Int) (n la i : Nat) (G : Fn) (L : Sc) : Prop := CN v u n la i ∧ (v 22 4 = s ∧ v 8 4 = s ∧ (s = 0 ∨ s = 1)) ∧ ((∃ c : Nat, v 1 6 = c ∧ c ≤ 20) ∧ (∃ c : Nat, v 28 2 = c ∧ c ≤ 30) ∧ ∃ c : Nat, v 8 3 = c ∧ c ≤ 3100) ∧ (s = 1 → FNS v G ∧ SCP v L)
theorem CG.to0 {s : Int} {v : Mem} {u : Nat → Int} {n la i sg nb : Nat} {G : Fn} {L : Sc} (h : CG s v u n la i sg nb G L) : CG0 s v u n la i G L := ⟨h.1, h.2.2.2.1, h.2.2.2.2.1, h.2.2.2.2.2⟩
theorem CG0.fr {s : Int} {v v' : Mem} {u : Nat → Int} {n la i i' : Nat} {G : Fn} {L : Sc} (h : CG0 s v u n la i G L) (f : FrE v v') (h1 : CN v' u n la i') : CG0 s v' u n la i' G L := by
  obtain ⟨-, a4, a5, a6⟩ := h
  refine ⟨h1, ⟨by rw [f.2.1 4 (by omega)]; exact a4.1, by rw [f.2.2.1]; exact a4.2.1, a4.2.2⟩, ⟨?_, ?_, f.2.2.2 a5.2.2⟩, fun hs => ⟨(a6 hs).1.fr f, (a6 hs).2.fr f⟩⟩
  · rw [f.1 1 (by omega) (by omega)]; exact a5.1
  · rw [f.1 28 (by omega) (by omega)]; exact a5.2.1
theorem CG0.pc {s : Int} {v : Mem} {u : Nat → Int} {n la i : Nat} {G : Fn} {L : Sc} (h : CG0 s v u n la i G L) : ∃ c : Nat, v 8 3 = c ∧ c ≤ 3100 := h.2.2.1.2.2
theorem CG0.u {s : Int} {v : Mem} {u : Nat → Int} {n la i : Nat} {G : Fn} {L : Sc} (h : CG0 s v u n la i G L) : u = uB (v 12) n := h.1.1.2.2.1.symm
theorem CG0.psn {s : Int} {v : Mem} {u : Nat → Int} {n la i : Nat} {G : Fn} {L : Sc} (h : CG0 s v u n la i G L) (j : Nat) : ps u n j ≤ 3000 := by
  have h1 := ps_le (b := v 12) (n := n) j
  rw [← h.u] at h1
  have := h.1.1.2.1
  omega
theorem CG0.adv {s : Int} {v : Mem} {u : Nat → Int} {n la i : Nat} {G : Fn} {L : Sc} (h : CG0 s v u n la i G L) (j : Nat) (h0 : kd u n j ≠ 0) (h1 : kd u n j ≠ 1) : ps u n j + 1 ≤ ps u n (j + 1) := by
  have e := h.u
  generalize v 12 = b at e
  subst e
  exact ps_adv h0 h1
theorem CG0.next {s : Int} {v : Mem} {u : Nat → Int} {n la i : Nat} {G : Fn} {L : Sc} (h : CG0 s v u n la i G L) (h0 : kd u n i ≠ 0) : CG0 s (m_122 v) u n la (i + 1) G L ∧ OW s v (m_122 v) [] [] [] ∧ m_122 v 8 3 = v 8 3 := by
  have hi := h.1.lt h0
  have e := h.1.next hi
  refine ⟨h.fr FrE.next (h.1.next_st hi), ?_, ?_⟩
  · rw [e]; exact OW.u22 (by omega) h.pc
  · rw [e, up_ne (by decide)]
theorem CG0.act {s : Int} {v : Mem} {u : Nat → Int} {n la i : Nat} {G : Fn} {L : Sc} (h : CG0 s v u n la i G L) (a b c : Int) (ha : 0 ≤ a ∧ a < 128) (hr : s = 1 → v 8 3 ≤ 3050) : CG0 s (m_10 a b c v) u n la i G L ∧ OW s v (m_10 a b c v) [(a, b, c)] [] [] ∧ (s = 1 → m_10 a b c v 8 3 = v 8 3 + 1) ∧ (s = 1 → f_10 a b c v = v 8 3) := by
  obtain ⟨q, hq, hq2⟩ := h.pc
  have em : s = 1 → m_10 a b c v = up (up (up (up v 9 q a) 10 q b) 11 q c) 8 3 ((q + 1 : Nat) : Int) := by
    intro hs
    have := hr hs
    unfold m_10
    rw [if_neg (by rw [h.2.1.2.1, hs]; decide), hq, if_neg (by omega), if_pos (by omega), Int.toNat_natCast, w8_id (by rw [w8_id (by omega) (by omega)]; omega) (by rw [w8_id (by omega) (by omega)]; omega), w8_id (by omega) (by omega), wNat (k := q + 1) (by omega) (by omega)]
  refine ⟨h.fr FrE.act (h.1.act a b c), ⟨fun hs => ?_, fun hs => ?_⟩, fun hs => ?_, fun hs => ?_⟩
  · rw [act_shut (h.2.1.2.1.trans hs)]
    exact ⟨rfl, rfl, rfl, rfl, rfl, rfl⟩
  · rw [em hs]
    refine ⟨q, hq, by rw [up_k]; rfl, ⟨⟨?_, ?_, ?_⟩, trivial⟩, fun e k h1 h2 h3 => ?_, rfl, rfl⟩
    · rw [up_ne (by decide), up_ne (by decide), up_ne (by decide), up_k]
    · rw [up_ne (by decide), up_ne (by decide), up_k]
    · rw [up_ne (by decide), up_k]
    · rw [upc_ne (by omega), upc_ne (by omega), upc_ne (by omega), upc_ne (by omega)]
  · rw [em hs, up_k, hq]; omega
  · have := hr hs
    unfold f_10
    rw [if_neg (by rw [h.2.1.2.1, hs]; decide), hq, if_neg (by omega), if_pos (by omega), wS (k := q) (m := 3101) (by omega) (by decide), wP1 (by omega)]
/-- at word i: st S, dp S around, sc locals in scope -/
def SX (s : Int) (v : Mem) (u : Nat → Int) (n la i st dp sc : Nat) (G : Fn) (L : Sc) : Prop := CG0 s v u n la i G L ∧ (v 22 12 = st ∧ st ≤ 300) ∧ (v 22 13 = dp ∧ dp ≤ 8) ∧ (v 28 2 = sc ∧ sc ≤ 30)
/-- from v0, at word i0, a walk over S has come to word i -/
def GS (s : Int) (v0 v : Mem) (u : Nat → Int) (n la i0 i st dp sc k : Nat) (G : Fn) (L : Sc) (a : Ac) (nf : List Nat) (tf : List Int) (mx : Nat) : Prop := SX s v u n la i st dp sc G L ∧ FrS v0 v ∧ OW s v0 v a nf tf ∧ (s = 1 → v0 8 3 ≤ (ps u n i0 : Int) ∧ v 8 3 + (ps u n i0 : Int) + (k : Int) ≤ v0 8 3 + (ps u n i : Int)) ∧ i0 ≤ i ∧ (s = 1 → v 28 3 = (mx : Nat))
