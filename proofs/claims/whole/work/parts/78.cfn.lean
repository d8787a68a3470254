/-! The class's walk over a FUNCTION: its TYPE and BLOCK; all of it. -/
theorem m21c {v : Mem} {a b : Int} {c : Nat} (h : c ≠ 5) : m_21 a b v c = v c := by
  unfold m_21
  split
  · rfl
  · split
    · split
      · exact up_ne h
      · rfl
    · rfl
theorem m22c {v : Mem} {a b : Int} {c : Nat} (h : c ≠ 6) : m_22 a b v c = v c := by
  unfold m_22
  split
  · rfl
  · split
    · split
      · exact up_ne h
      · rfl
    · rfl
theorem m23c {v : Mem} {a b : Int} {c : Nat} (h : c ≠ 7) : m_23 a b v c = v c := by
  unfold m_23
  split
  · rfl
  · split
    · split
      · exact up_ne h
      · rfl
    · rfl
theorem m22r {v : Mem} {fi k : Nat} {b : Int} (h : k ≠ fi) : m_22 (fi : Int) b v 6 k = v 6 k := by
  unfold m_22
  split
  · rfl
  · split
    · split
      · rw [Int.toNat_natCast]; exact up_nk h
      · rfl
    · rfl
theorem m23r {v : Mem} {fi k : Nat} {b : Int} (h : k ≠ fi) : m_23 (fi : Int) b v 7 k = v 7 k := by
  unfold m_23
  split
  · rfl
  · split
    · split
      · rw [Int.toNat_natCast]; exact up_nk h
      · rfl
    · rfl
theorem CXp.m21 {fi : Nat} {v0 v : Mem} {u : Nat → Int} {n la j : Nat} (h : CXp fi v0 v u n la j) (b : Int) : CXp fi v0 (m_21 (fi : Int) b v) u n la j := h.tab (fun c hc => m21c (by omega)) (fun q => by rw [m21c (by decide)]; exact q) (fun c k hc _ => by rw [m21c (by omega)])
theorem CXp.m22 {fi : Nat} {v0 v : Mem} {u : Nat → Int} {n la j : Nat} (h : CXp fi v0 v u n la j) (b : Int) : CXp fi v0 (m_22 (fi : Int) b v) u n la j := h.tab (fun c hc => m22c (by omega)) (fun q => by rw [m22c (by decide)]; exact q) (fun c k hc hk => by
  rcases hc with e | e
  · rw [e, m22r hk]
  · rw [e, m22c (by decide)])
theorem CXp.m23 {fi : Nat} {v0 v : Mem} {u : Nat → Int} {n la j : Nat} (h : CXp fi v0 v u n la j) (b : Int) : CXp fi v0 (m_23 (fi : Int) b v) u n la j := h.tab (fun c hc => m23c (by omega)) (fun q => by rw [m23c (by decide)]; exact q) (fun c k hc hk => by
  rcases hc with e | e
  · rw [e, m23c (by decide)]
  · rw [e, m23r hk])
theorem CXp.blk {t : Int} {fi D : Nat} {v0 v : Mem} {u : Nat → Int} {n la j : Nat} {Q : Int → Mem → Prop} (h : CXp fi v0 v u n la j) (h0 : ∃ c : Nat, v0 28 2 = c ∧ c ≤ 30) (hD : 2 ≤ D) (hq : Q 0 v) : RR t D 90 [(2, 22)] v Q := h.to.blk (h.2.2.2.2.2.1 h0) hD hq
/-- behind a fault, from the ) on -/
theorem cx_tail {t : Int} {fi d : Nat} {v0 v : Mem} {u : Nat → Int} {n la j : Nat} {Q : Int → Mem → Prop} (h : CXp fi v0 v u n la j) (h0 : ∃ c : Nat, v0 28 2 = c ∧ c ≤ 30) (hq : ∀ v', CXp fi v0 v' u n la j → Q 0 v') : LL t (d + 3) 85 52 [(2, 22), (0, (fi : Int)), (3, 0)] [] v Q := by
  have hM := ((h.expect 41).expect 58).type
  refine s_85_52 (d := d) ⟨fun _ => ?_, fun _ => ?_⟩
  · refine ((hM.m21 _).m22 _).blk h0 (by omega) ⟨fun _ => hq _ ?_, fun _ => hq _ ?_⟩
    · exact ((((hM.m21 _).m22 _).act _ _ _).act _ _ _).m23 _
    · exact ((((hM.m21 _).m22 _).act _ _ _).act _ _ _).m23 _
  · refine (hM.m22 _).blk h0 (by omega) ⟨fun _ => hq _ ?_, fun _ => hq _ ?_⟩
    · exact (((hM.m22 _).act _ _ _).act _ _ _).m23 _
    · exact (((hM.m22 _).act _ _ _).act _ _ _).m23 _
theorem FNS.tab5 {v v' : Mem} {G : Fn} (h : FNS v G) (h1 : ∀ c, 1 ≤ c → c ≤ 5 → v' c = v c) : FNS v' G := by
  unfold FNS at *
  rw [h1 1 (by omega) (by omega), h1 2 (by omega) (by omega), h1 3 (by omega) (by omega), h1 4 (by omega) (by omega), h1 5 (by omega) (by omega)]
  exact h
theorem GP.act {s : Int} {v0 v : Mem} {u : Nat → Int} {n la i0 i st sc fi k : Nat} {G : Fn} {L : Sc} {Gc : Fn} {a : Ac} {nf : List Nat} {tf : List Int} {mx : Nat} (h : GP s v0 v u n la i0 i st sc fi (k + 1) G L Gc a nf tf mx) (x y z : Int) (hx : 0 ≤ x ∧ x < 128) : GP s v0 (m_10 x y z v) u n la i0 i st sc fi k G L Gc (a ++ [(x, y, z)]) nf tf mx := by
  obtain ⟨⟨hg, b1, b2, b3⟩, a2, a3, a4, a5, a6, a7, a8⟩ := h
  obtain ⟨h1, h2, h3, h4⟩ := hg.act x y z hx (fun hs => by have := a6 hs; have := hg.psn i; omega)
  have e22 : m_10 x y z v 22 = v 22 := act_cell (by omega)
  have e28 : m_10 x y z v 28 = v 28 := act_cell (by omega)
  refine ⟨⟨h1, by rw [e22]; exact b1, by rw [e22]; exact b2, by rw [e28]; exact b3⟩, by rw [e22]; exact a2, a3.frs (FrS.of FrE.act), a4.trans (FrP.of (FrS.of FrE.act)), ?_, fun hs => ⟨(a6 hs).1, ?_⟩, a7, fun hs => by rw [e28]; exact a8 hs⟩
  · have := a5.trans h2
    simp only [List.append_nil] at this
    exact this
  · rw [h3 hs]
    have := (a6 hs).2
    omega
theorem FNS.tyi {v : Mem} {G : Fn} {fi : Nat} (h : FNS v G) (hf : fi < G.length) : f_27 (fi : Int) v = (G.getD fi (0, [], 0)).2.2 := by
  have h2 := h.2.1
  unfold f_27
  rw [if_neg (by omega), h.1, if_pos (by omega), if_pos (by omega), Int.toNat_natCast]
  exact (h.2.2 fi hf).2.2.2.1
/-- the acts behind a FUNCTION's BLOCK -/
def finA (ty : Int) : Ac := [(if ty = 1 then 8 else 7, 0, 0), (6, 0, 0)]
theorem tail_p {s t : Int} {u : Nat → Int} {n la i0 i st np fi k mx d F : Nat} {v0 v : Mem} {G : Fn} {L : Sc} {G0 : Fn} {nf : List Nat} {Q : Int → Mem → Prop} {nm : Int} {P : List Int} {r : Except Nat (Int × Jvm.Term × Nat × Nat)} (hp : PTl (kd u n) F i st np = some r) (hd : dB 0 ≤ d) (h : GP s v0 v u n la i0 i st np fi k G L (gcS s G0 G (nm, P, 0)) [] nf [] mx) (hl : s = 0 → G0.length = fi) (hf : fi < 20) (hv0 : ∃ c : Nat, v0 28 2 = c ∧ c ≤ 30)
    (hG : s = 1 → ∀ ty b i' st', r = .ok (ty, b, i', st') → fi < G.length ∧ (G.getD fi (0, [], 0)).2.2 = ty)
    (hq : match r with
      | .error e => ∀ v', CXp fi v0 v' u n la e → Q 0 v'
      | .ok q => ∀ v', GP s v0 v' u n la i0 q.2.2.1 q.2.2.2 np fi 0 G L (gcS s G0 G (nm, P, q.1)) (coK u n G L q.2.1 (v0 8 3).toNat ++ finA q.1) (nf ++ nfB u n G L q.2.1) (tfB u n G q.1 L q.2.1) (mxB u n G mx L q.2.1) → (s = 1 → v' 6 fi = ((v0 8 3).toNat : Int) ∧ v' 7 fi = ((mxB u n G mx L q.2.1 : Nat) : Int)) → Q 0 v') : LL t (d + 3) 85 52 [(2, 22), (0, (fi : Int)), (3, 0)] [] v Q := by
  have hp : (if kd u n i = 41 then (if kd u n (i + 1) = 58 then (if kd u n (i + 2) = 17 ∨ kd u n (i + 2) = 24 then (match PS (kd u n) F 0 (i + 3) st 0 np with
    | none => none
    | some (.error e) => some (.error e)
    | some (.ok b) => some (.ok (tyk (kd u n (i + 2)), b.1, b.2.1, b.2.2.1))) else some (.error (i + 2))) else some (.error (i + 1))) else some (.error i)) = some r := hp
  have bad : ∀ e, r = .error e → CXp fi v0 (m_89 (m_123 58 (m_123 41 v))) u n la e → ((m_89 (m_123 58 (m_123 41 v)) 22 4 = 0 → (RR t (d + 2) 90 [(2, 22)] (m_22 (fi : Int) (m_21 (fi : Int) (f_89 (m_123 58 (m_123 41 v))) (m_89 (m_123 58 (m_123 41 v))) 8 3) (m_21 (fi : Int) (f_89 (m_123 58 (m_123 41 v))) (m_89 (m_123 58 (m_123 41 v))))) (fun x2 v2 => ((f_89 (m_123 58 (m_123 41 v)) = 1 → Q 0 (m_23 (fi : Int) (m_10 6 0 0 (m_10 8 0 0 v2) 28 3) (m_10 6 0 0 (m_10 8 0 0 v2)))) ∧ (¬ f_89 (m_123 58 (m_123 41 v)) = 1 → Q 0 (m_23 (fi : Int) (m_10 6 0 0 (m_10 7 0 0 v2) 28 3) (m_10 6 0 0 (m_10 7 0 0 v2)))))))) ∧ (¬ m_89 (m_123 58 (m_123 41 v)) 22 4 = 0 → (RR t (d + 2) 90 [(2, 22)] (m_22 (fi : Int) (m_89 (m_123 58 (m_123 41 v)) 8 3) (m_89 (m_123 58 (m_123 41 v)))) (fun x4 v4 => ((f_89 (m_123 58 (m_123 41 v)) = 1 → Q 0 (m_23 (fi : Int) (m_10 6 0 0 (m_10 8 0 0 v4) 28 3) (m_10 6 0 0 (m_10 8 0 0 v4)))) ∧ (¬ f_89 (m_123 58 (m_123 41 v)) = 1 → Q 0 (m_23 (fi : Int) (m_10 6 0 0 (m_10 7 0 0 v4) 28 3) (m_10 6 0 0 (m_10 7 0 0 v4))))))))) := by
    intro e er hM
    subst er
    refine ⟨fun _ => ?_, fun _ => ?_⟩
    · refine ((hM.m21 _).m22 _).blk hv0 (by omega) ⟨fun _ => hq _ ?_, fun _ => hq _ ?_⟩
      · exact ((((hM.m21 _).m22 _).act _ _ _).act _ _ _).m23 _
      · exact ((((hM.m21 _).m22 _).act _ _ _).act _ _ _).m23 _
    · refine (hM.m22 _).blk hv0 (by omega) ⟨fun _ => hq _ ?_, fun _ => hq _ ?_⟩
      · exact (((hM.m22 _).act _ _ _).act _ _ _).m23 _
      · exact (((hM.m22 _).act _ _ _).act _ _ _).m23 _
  refine s_85_52 (d := d) ?_
  rcases h.expect (c := 41) (by omega) with ⟨k41, g1⟩ | ⟨k41, g1⟩
  · rw [if_pos k41] at hp
    rcases g1.expect (c := 58) (by omega) with ⟨k58, g2⟩ | ⟨k58, g2⟩
    · rw [if_pos k58] at hp
      rcases g2.type with ⟨kt, g3, et⟩ | ⟨kt, g3⟩
      · rw [if_pos kt] at hp
        rw [et]
        -- from the TYPE on; w: with the TYPE and the entry told
        have go : ∀ w : Mem, GP s v0 w u n la i0 (i + 3) st np fi (k + 3) G L (gcS s G0 G (nm, P, tyk (kd u n (i + 2)))) [] nf [] mx → (s = 1 → fi < G.length → w 6 fi = ((v0 8 3).toNat : Int)) → RR t (d + 2) 90 [(2, 22)] w (fun x2 v2 => ((tyk (kd u n (i + 2)) = 1 → Q 0 (m_23 (fi : Int) (m_10 6 0 0 (m_10 8 0 0 v2) 28 3) (m_10 6 0 0 (m_10 8 0 0 v2)))) ∧ (¬ tyk (kd u n (i + 2)) = 1 → Q 0 (m_23 (fi : Int) (m_10 6 0 0 (m_10 7 0 0 v2) 28 3) (m_10 6 0 0 (m_10 7 0 0 v2)))))) := by
          intro w g w6
          obtain ⟨rb, hrb⟩ : ∃ rb, PS (kd u n) F 0 (i + 3) st 0 np = some rb := by
            cases hr : PS (kd u n) F 0 (i + 3) st 0 np with
            | none => rw [hr] at hp; cases hp
            | some rb => exact ⟨rb, rfl⟩
          rw [hrb] at hp
          refine blk_k (KS_all s t u n la G F).2.1 hrb (by omega) g.gs (fun _ => rfl) (fun j v' e hx => ?_) (fun b i1 st1 sc1 v' e gb => ?_)
          · subst e
            cases hp
            have hx := CXp.of g.2.2.2.1 hx
            exact ⟨fun _ => hq _ (((hx.act _ _ _).act _ _ _).m23 _), fun _ => hq _ (((hx.act _ _ _).act _ _ _).m23 _)⟩
          · subst e
            cases hp
            have g4 := g.subS gb
            -- the two acts and the number of rows
            have fin : ∀ z : Int, z = (if tyk (kd u n (i + 2)) = 1 then 8 else 7) → Q 0 (m_23 (fi : Int) (m_10 6 0 0 (m_10 z 0 0 v') 28 3) (m_10 6 0 0 (m_10 z 0 0 v'))) := by
              intro z hz
              have hz2 : 0 ≤ z ∧ z < 128 := by rw [hz]; split <;> omega
              have g5 := ((g4.less (k' := 2) (by omega)).act z 0 0 hz2).act 6 0 0 (by omega)
              have hc : (s = 1 → fi < G.length) → ∃ q, m_10 6 0 0 (m_10 z 0 0 v') 1 6 = q ∧ (fi : Int) < q := by
                intro hfl
                have hF := g5.2.2.1
                refine ⟨_, hF.1, ?_⟩
                unfold gcS
                by_cases hs : s = 0
                · rw [if_pos hs, List.length_append, hl hs]
                  show (fi : Int) < ((fi + 1 : Nat) : Int)
                  omega
                · rw [if_neg hs]
                  have := hfl (by rcases g5.1.1.2.1.2.2 with e | e <;> omega)
                  omega
              have hfl : s = 1 → fi < G.length := fun hs => (hG hs _ _ _ _ rfl).1
              obtain ⟨q, hq1, hq2⟩ := hc hfl
              have e7 : m_23 (fi : Int) (m_10 6 0 0 (m_10 z 0 0 v') 28 3) (m_10 6 0 0 (m_10 z 0 0 v')) 7 fi = m_10 6 0 0 (m_10 z 0 0 v') 28 3 := by
                unfold m_23
                rw [if_neg (by omega), hq1, if_pos hq2, if_pos (by omega), Int.toNat_natCast, up_k]
              have g6 := g5.tab (v' := m_23 (fi : Int) (m_10 6 0 0 (m_10 z 0 0 v') 28 3) (m_10 6 0 0 (m_10 z 0 0 v'))) (fun c hc => m23c (by omega)) (fun c k hc hk => by
                rcases hc with e | e
                · rw [e, m23c (by decide)]
                · rw [e, m23r hk]) (g5.2.2.1.tab5 (fun c c1 c2 => m23c (by omega))) (fun hs => ((g5.1.1.2.2.2 hs).1).tab5 (fun c c1 c2 => m23c (by omega)))
              refine hq _ (g6.eq (fun hs => ?_) (fun hs => ?_) (fun hs => ?_) (fun hs => rfl)) (fun hs => ⟨?_, ?_⟩)
              · have e8 : (w 8 3).toNat = (v0 8 3).toNat := by have := (g.pc hs).1; exact this
                rw [e8, hz]
                unfold finA
                simp only [List.append_assoc, List.cons_append, List.nil_append, List.length_nil, Nat.add_zero]
              · simp only [List.nil_append]
              · have er : f_27 (w 22 11) w = tyk (kd u n (i + 2)) := by
                  rw [g.2.1, ((g.1.1.2.2.2 hs).1).tyi (hfl hs)]
                  exact (hG hs _ _ _ _ rfl).2
                rw [er]
                simp only [List.nil_append]
              · rw [m23c (by decide), act_cell (by omega), act_cell (by omega), gb.2.1.1 6 (by omega) (by omega) (by omega)]
                exact w6 hs (hfl hs)
              · rw [e7]
                exact g5.2.2.2.2.2.2.2 hs
            exact ⟨fun c => fin 8 (by rw [if_pos c]), fun c => fin 7 (by rw [if_neg c])⟩
        refine ⟨fun c => ?_, fun c => ?_⟩
        · have hs : s = 0 := by rw [← g3.1.1.2.1.1]; exact c
          have hl := hl hs
          have hF : FNS (m_89 (m_123 58 (m_123 41 v))) (G0 ++ [(nm, P, 0)]) := by have := g3.2.2.1; unfold gcS at this; rw [if_pos hs] at this; exact this
          have e21 : m_21 (fi : Int) (tyk (kd u n (i + 2))) (m_89 (m_123 58 (m_123 41 v))) = up (m_89 (m_123 58 (m_123 41 v))) 5 fi (tyk (kd u n (i + 2))) := by
            have hF1 := hF.1
            rw [List.length_append] at hF1
            have hF1 : m_89 (m_123 58 (m_123 41 v)) 1 6 = ((G0.length + 1 : Nat) : Int) := hF1
            unfold m_21
            rw [if_neg (by omega), hF1, if_pos (by omega), if_pos (by omega), Int.toNat_natCast]
          have hF2 := hF.typ (tyk (kd u n (i + 2)))
          rw [hl] at hF2
          have g4 := g3.tab (v' := m_21 (fi : Int) (tyk (kd u n (i + 2))) (m_89 (m_123 58 (m_123 41 v)))) (Gc' := gcS s G0 G (nm, P, tyk (kd u n (i + 2)))) (fun c hc => m21c (by omega)) (fun c k hc _ => by rw [m21c (by omega)]) (by rw [e21]; unfold gcS; rw [if_pos hs]; exact hF2) (fun e => by omega)
          refine go _ (g4.tab (fun c hc => m22c (by omega)) (fun c k hc hk => by
            rcases hc with e | e
            · rw [e, m22r hk]
            · rw [e, m22c (by decide)]) (g4.2.2.1.tab5 (fun c c1 c2 => m22c (by omega))) (fun e => by omega)) (fun e => by omega)
        · have hs : s = 1 := by
            rcases g3.1.1.2.1.2.2 with e | e
            · exact absurd (g3.1.1.2.1.1.trans e) c
            · exact e
          have eg : ∀ row, gcS s G0 G row = G := fun row => by unfold gcS; rw [if_neg (by omega)]
          rw [eg] at g3
          have g4 := g3.tab (v' := m_22 (fi : Int) (m_89 (m_123 58 (m_123 41 v)) 8 3) (m_89 (m_123 58 (m_123 41 v)))) (Gc' := G) (fun c hc => m22c (by omega)) (fun c k hc hk => by
            rcases hc with e | e
            · rw [e, m22r hk]
            · rw [e, m22c (by decide)]) (g3.2.2.1.tab5 (fun c c1 c2 => m22c (by omega))) (fun _ => (g3.2.2.1.tab5 (fun c c1 c2 => m22c (by omega))))
          refine go _ (by rw [eg]; exact g4) (fun _ hfl => ?_)
          have h2 := g3.2.2.1.2.1
          unfold m_22
          rw [if_neg (by omega), g3.2.2.1.1, if_pos (by omega), if_pos (by omega), Int.toNat_natCast, up_k]
          exact (g3.pc hs).2
      · rw [if_neg kt] at hp
        exact bad (i + 2) (by cases hp; rfl) g3
    · rw [if_neg k58] at hp
      exact bad (i + 1) (by cases hp; rfl) g2.type
  · rw [if_neg k41] at hp
    exact bad i (by cases hp; rfl) (g1.expect 58).type
