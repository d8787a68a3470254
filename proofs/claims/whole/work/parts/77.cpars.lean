/-! The class's walk over a FUNCTION: PARAMETERS. -/
theorem GP.add {s : Int} {v0 v : Mem} {u : Nat → Int} {n la i0 i st sc fi k : Nat} {G : Fn} {L : Sc} {Gc : Fn} {a : Ac} {nf : List Nat} {tf : List Int} {mx : Nat} (h : GP s v0 v u n la i0 i st sc fi k G L Gc a nf tf mx) (hsc : sc < 30) (nm ty : Int) : GP s v0 (m_130 nm ty v) u n la i0 i st (sc + 1) fi k G (L ++ [(nm, ty)]) Gc a nf tf (max mx (L.length + 1)) := by
  have := h.subS (h.gs.add hsc nm ty)
  simp only [List.append_nil, Nat.add_zero] at this
  exact this
/-- the word at which a PARAMETER is wrong -/
def parE (K : Nat → Int) (j np e : Nat) : Prop := (¬ (K j = 2 ∧ np < 6) ∧ e = j) ∨ ((K j = 2 ∧ np < 6) ∧ ¬ K (j + 1) = 58 ∧ e = j + 1) ∨ ((K j = 2 ∧ np < 6) ∧ K (j + 1) = 58 ∧ ¬ (K (j + 2) = 17 ∨ K (j + 2) = 24) ∧ e = j + 2)
theorem par_k {s t : Int} {u : Nat → Int} {n la i0 j st fi k mx d : Nat} {v0 v : Mem} {G : Fn} {L : Sc} {G0 : Fn} {a : Ac} {nf : List Nat} {tf : List Int} {Q : Int → Mem → Prop} {nm : Int} {P : List Int} {np : Nat} (h : GP s v0 v u n la i0 j st np fi k G L (gcS s G0 G (nm, P, 0)) a nf tf mx) (hP : P.length = np) (hnp : np ≤ 6) (hl : s = 0 → G0.length = fi)
    (hok : kd u n j = 2 → np < 6 → kd u n (j + 1) = 58 → (kd u n (j + 2) = 17 ∨ kd u n (j + 2) = 24) → ∀ v', GP s v0 v' u n la i0 (j + 3) st (np + 1) fi k G (L ++ [(vl u n j, tyk (kd u n (j + 2)))]) (gcS s G0 G (nm, P ++ [tyk (kd u n (j + 2))], 0)) a (nf ++ (if slt L (vl u n j) = -1 then [] else [ps u n j])) tf (max mx (L.length + 1)) → Q 0 v') (herr : ∀ e, parE (kd u n) j np e → ∀ v', CXp fi v0 v' u n la e → Q 0 v') : RR t (d + 3) 88 [(2, 22), (0, (np : Int))] v Q := by
  have hcg := h.1.1
  refine s_88 (d := d) ⟨fun c6 => ?_, fun c6 => ?_⟩
  · have hsc := h.1.2.2.2.1
    -- behind the look for the NAME
    have key : ∀ (w : Mem) (nf' : List Nat) (val : Int), (kd u n j = 2 → val = vl u n j) → (s = 1 → kd u n j = 2 → nf' = nf ++ (if slt L (vl u n j) = -1 then [] else [ps u n j])) → GP s v0 w u n la i0 j st np fi k G L (gcS s G0 G (nm, P, 0)) a nf' tf mx →
        ((m_89 (m_123 58 (m_123 2 w)) 22 4 = 0 → RR t (d + 2) 20 [(2, 1), (0, m_89 (m_123 58 (m_123 2 w)) 22 11), (0, f_89 (m_123 58 (m_123 2 w)))] (m_89 (m_123 58 (m_123 2 w))) (fun x5 v5 => Q 0 (m_130 val (f_89 (m_123 58 (m_123 2 w))) v5))) ∧ (¬ m_89 (m_123 58 (m_123 2 w)) 22 4 = 0 → Q 0 (m_130 val (f_89 (m_123 58 (m_123 2 w))) (m_89 (m_123 58 (m_123 2 w)))))) := by
      intro w nf' val hval hnf g0
      have bad : ∀ e, parE (kd u n) j np e → CXp fi v0 (m_89 (m_123 58 (m_123 2 w))) u n la e → ((m_89 (m_123 58 (m_123 2 w)) 22 4 = 0 → RR t (d + 2) 20 [(2, 1), (0, m_89 (m_123 58 (m_123 2 w)) 22 11), (0, f_89 (m_123 58 (m_123 2 w)))] (m_89 (m_123 58 (m_123 2 w))) (fun x5 v5 => Q 0 (m_130 val (f_89 (m_123 58 (m_123 2 w))) v5))) ∧ (¬ m_89 (m_123 58 (m_123 2 w)) 22 4 = 0 → Q 0 (m_130 val (f_89 (m_123 58 (m_123 2 w))) (m_89 (m_123 58 (m_123 2 w)))))) := fun e he hx => ⟨fun _ => hx.p20 (fun v' h' => herr e he _ (h'.add _ _)), fun _ => herr e he _ (hx.add _ _)⟩
      rcases g0.expect (c := 2) (by omega) with ⟨k2, g1⟩ | ⟨k2, g1⟩
      · rcases g1.expect (c := 58) (by omega) with ⟨k58, g2⟩ | ⟨k58, g2⟩
        · rcases g2.type with ⟨kt, g3, et⟩ | ⟨kt, g3⟩
          · have g3 := g3.less (k' := k) (by omega)
            rw [et, hval k2, g3.2.1]
            refine ⟨fun c4 => ?_, fun c4 => ?_⟩
            · have hs : s = 0 := by rw [← g3.1.1.2.1.1]; exact c4
              have hl := hl hs
              have hF : FNS (m_89 (m_123 58 (m_123 2 w))) (G0 ++ [(nm, P, 0)]) := by have := g3.2.2.1; unfold gcS at this; rw [if_pos hs] at this; exact this
              have hF1 := hF.1
              have hF2 := hF.2.1
              rw [List.length_append] at hF1 hF2
              have hF2 : G0.length + 1 ≤ 20 := hF2
              have hF3 := hF.2.2 G0.length (by rw [List.length_append]; exact Nat.lt_succ_self _)
              rw [gd2] at hF3
              refine par20 (fun v' _ hv => ?_)
              have ev := hv fi np rfl (by rw [hF1]; show (fi : Int) < ((G0.length + 1 : Nat) : Int); omega) (by omega) (by rw [← hl, hF3.2.1, ← hP]) (by omega)
              subst ev
              have hF4 := hF.par (by omega) (tyk (kd u n (j + 2)))
              rw [hP, hl] at hF4
              refine hok k2 (by omega) k58 kt _ ?_
              have g4 := g3.tab (v' := up (up (m_89 (m_123 58 (m_123 2 w))) 4 (fi * 6 + np) (tyk (kd u n (j + 2)))) 3 fi ((np + 1 : Nat) : Int)) (Gc' := gcS s G0 G (nm, P ++ [tyk (kd u n (j + 2))], 0)) (fun c hc => by rw [up_ne (by omega), up_ne (by omega)]) (fun c k hc _ => by rw [up_ne (by omega), up_ne (by omega)]) (by unfold gcS; rw [if_pos hs]; exact hF4) (fun e => by omega)
              exact (g4.add (by omega) _ _).eq (fun e => by omega) (fun e => by omega) (fun e => by omega) (fun e => by omega)
            · have hs : s = 1 := by
                rcases g3.1.1.2.1.2.2 with e | e
                · exact absurd (g3.1.1.2.1.1.trans e) c4
                · exact e
              refine hok k2 (by omega) k58 kt _ ?_
              have g4 := (g3.add (by omega) (vl u n j) (tyk (kd u n (j + 2)))).eq (fun _ => rfl) (fun _ => hnf hs k2) (fun _ => rfl) (fun _ => rfl)
              unfold gcS at g4 ⊢
              rw [if_neg (by omega)] at g4 ⊢
              exact g4
          · exact bad (j + 2) (Or.inr (Or.inr ⟨⟨k2, by omega⟩, k58, kt, rfl⟩)) g3
        · exact bad (j + 1) (Or.inr (Or.inl ⟨⟨k2, by omega⟩, k58, rfl⟩)) g2.type
      · exact bad j (Or.inl ⟨fun q => k2 q.1, rfl⟩) (g1.expect 58).type
    have hv : kd u n j = 2 → f_157 (v 22 10) v = vl u n j := fun k2 => hcg.1.value (hcg.1.lt (by omega))
    refine sfind_rr (c := np) hsc (by omega) ⟨fun c => ?_, fun c => ?_⟩
    · refine key v nf _ hv (fun hs k2 => ?_) h
      have e : fndA (v 29) (f_157 (v 22 10) v) np 0 = slt L (vl u n j) := by
        rw [hv k2]
        have hS := (hcg.2.2.2 hs).2
        have : np = L.length := by have := hS.1; omega
        subst this
        exact fndA_eq _ _ (fun q _ hq => (hS.2.2 q (by omega)).1)
      rw [if_pos (by rw [← e]; exact c), List.append_nil]
    · rw [hcg.1.place]
      refine key _ _ _ hv (fun hs k2 => ?_) (h.fnm (ps u n j))
      have e : fndA (v 29) (f_157 (v 22 10) v) np 0 = slt L (vl u n j) := by
        rw [hv k2]
        have hS := (hcg.2.2.2 hs).2
        have : np = L.length := by have := hS.1; omega
        subst this
        exact fndA_eq _ _ (fun q _ hq => (hS.2.2 q (by omega)).1)
      rw [if_neg (by rw [← e]; exact c)]
  · exact herr j (Or.inl ⟨fun q => c6 (by omega), rfl⟩) _ ⟨hcg.1.refuse_st, h.2.2.2.1.trans (FrP.of (FrS.of FrE.refuse))⟩
/-- PARAMETERS, up to what is behind them -/
theorem pars_k {s t : Int} {u : Nat → Int} {n la i0 st fi k : Nat} {d : Nat} {v0 : Mem} {G : Fn} {G0 : Fn} {a : Ac} {tf : List Int} {Q : Int → Mem → Prop} {nm : Int} (hl : s = 0 → G0.length = fi) : ∀ (f j np : Nat) (r : Except Nat (List (Nat × Int) × Nat)) (v : Mem) (L : Sc) (P : List Int) (nf : List Nat) (mx : Nat), PPar (kd u n) f j np = some r → GP s v0 v u n la i0 j st np fi k G L (gcS s G0 G (nm, P, 0)) a nf tf mx → P.length = np → L.length = np → np ≤ 6 → (s = 1 → mx = np) →
    (match r with
      | .error e => ∀ v', CXp fi v0 v' u n la e → Q 0 v'
      | .ok q => ∀ v', GP s v0 v' u n la i0 q.2 st (np + q.1.length) fi k G (L ++ scP u n q.1) (gcS s G0 G (nm, P ++ q.1.map (fun p => p.2), 0)) a (nf ++ nfP u n L q.1) tf (np + q.1.length) → Q 0 v') → LL t (d + 4) 87 2 [(2, 22), (0, (np : Int))] [] v Q := by
  intro f
  induction f with
  | zero => intro j np r v L P nf mx h; cases h
  | succ f ih =>
    intro j np r v L P nf mx hp h hP hL hnp hmx hq
    have hp : (if kd u n j = 2 ∧ np < 6 then (if kd u n (j + 1) = 58 then (if kd u n (j + 2) = 17 ∨ kd u n (j + 2) = 24 then (if kd u n (j + 3) = 44 then (match PPar (kd u n) f (j + 4) (np + 1) with
      | none => none
      | some (.error e) => some (.error e)
      | some (.ok q) => some (.ok ((j, tyk (kd u n (j + 2))) :: q.1, q.2))) else some (.ok ([(j, tyk (kd u n (j + 2)))], j + 3))) else some (.error (j + 2))) else some (.error (j + 1))) else some (.error j)) = some r := hp
    refine s_87_2 (d := d + 2) ⟨fun c => absurd c (by omega), fun _ => ?_⟩
    refine par_k (d := d) h hP hnp hl (fun k2 h6 k58 kt v' g => ?_) (fun e he v' hx => ?_)
    · rw [if_pos ⟨k2, h6⟩, if_pos k58, if_pos kt] at hp
      have hk : f_155 (v' 22 10) v' = kd u n (j + 3) := g.1.1.1.kind
      rw [hk]
      have hmx' : s = 1 → max mx (L.length + 1) = np + 1 := fun hs => by rw [hmx hs, hL]; omega
      refine ⟨fun k44 => ?_, fun k44 => ?_⟩
      · rw [if_pos k44] at hp
        rw [wS (k := np) (m := 6) h6 (by decide)]
        have g2 := (g.next (by omega) (by omega)).less (k' := k) (by omega)
        have lP : (P ++ [tyk (kd u n (j + 2))]).length = np + 1 := by rw [List.length_append, hP]; rfl
        have lL : (L ++ [(vl u n j, tyk (kd u n (j + 2)))]).length = np + 1 := by rw [List.length_append, hL]; rfl
        cases hr : PPar (kd u n) f (j + 4) (np + 1) with
        | none => rw [hr] at hp; cases hp
        | some r2 =>
          rw [hr] at hp
          refine ih (j + 4) (np + 1) r2 _ _ _ _ _ hr g2 lP lL (by omega) hmx' ?_
          match r2, hp with
          | .error e, hp =>
            cases hp
            exact hq
          | .ok q, hp =>
            cases hp
            intro v6 g6
            have e1 : np + 1 + q.1.length = np + ((j, tyk (kd u n (j + 2))) :: q.1).length := by rw [List.length_cons]; omega
            rw [e1] at g6
            refine hq v6 ?_
            have e2 : L ++ [(vl u n j, tyk (kd u n (j + 2)))] ++ scP u n q.1 = L ++ scP u n ((j, tyk (kd u n (j + 2))) :: q.1) := by rw [List.append_assoc]; rfl
            have e3 : P ++ [tyk (kd u n (j + 2))] ++ q.1.map (fun p => p.2) = P ++ ((j, tyk (kd u n (j + 2))) :: q.1).map (fun p => p.2) := by rw [List.append_assoc]; rfl
            rw [e2, e3] at g6
            refine g6.eq (fun _ => rfl) (fun _ => ?_) (fun _ => rfl) (fun _ => rfl)
            rw [List.append_assoc]; rfl
      · rw [if_neg k44] at hp
        cases hp
        exact hq v' (g.eq (fun _ => rfl) (fun _ => by show _ = nf ++ ((if slt L (vl u n j) = -1 then [] else [ps u n j]) ++ []); rw [List.append_nil]) (fun _ => rfl) hmx')
    · have er : r = .error e := by
        rcases he with ⟨h1, rfl⟩ | ⟨h1, h2, rfl⟩ | ⟨h1, h2, h3, rfl⟩
        · rw [if_neg h1] at hp
          cases hp
          rfl
        · rw [if_pos h1, if_neg h2] at hp
          cases hp
          rfl
        · rw [if_pos h1, if_pos h2, if_neg h3] at hp
          cases hp
          rfl
      subst er
      rw [hx.1.kind]
      exact ⟨fun c => absurd c (by decide), fun _ => hq v' hx⟩
