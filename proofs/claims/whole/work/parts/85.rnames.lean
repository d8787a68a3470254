/-! The reference: the NAMES of an E. -/
/-- node x stands for the word i alone, its NAME resolved -/
def LF2 (v : Mem) (u : Nat → Int) (n : Nat) (L : Sc) (i x : Nat) : Prop := (kd u n i = 3 → v 57 x = 1 ∧ v 58 x = vl u n i) ∧ (kd u n i = 4 → v 57 x = 2 ∧ v 58 x = (ps u n i : Int) + 1 ∧ v 59 x = vl u n i) ∧ (kd u n i = 2 → v 57 x = 3 ∧ v 58 x = slt L (vl u n i)) ∧ (kd u n i = 3 ∨ kd u n i = 4 ∨ kd u n i = 2)
/-- nodes that stand for a tree, its NAMES resolved -/
def RN2 (v : Mem) (u : Nat → Int) (n : Nat) (G : Fn) (L : Sc) : Jvm.Term → Nat → Nat → Int → Prop
  | .null, lo, hi, x => lo ≤ hi ∧ x = -1
  | .sub e r, lo, hi, x => ∃ (k m : Nat), x = k ∧ lo ≤ k ∧ k < m ∧ m ≤ hi ∧ RN2 v u n G L e lo m k ∧ v 61 k = fstT u n e ∧ RN2 v u n G L r m hi (v 62 k)
  | .arg i, lo, hi, x => ∃ k : Nat, x = k ∧ lo ≤ k ∧ k < hi ∧ LF2 v u n L i k
  | .elem (.arg _) e, lo, hi, x => RN2 v u n G L e lo hi x
  | .mul (.arg i) e, lo, hi, x => ∃ k y : Nat, x = k ∧ lo ≤ y ∧ y < k ∧ k < hi ∧ v 57 k = (if kd u n i = 45 then 5 else 6) ∧ v 58 k = y ∧ RN2 v u n G L e lo k y ∧ v 61 y = fstT u n e
  | .add (.arg i) (.sub l r), lo, hi, x => ∃ k y z m : Nat, x = k ∧ lo ≤ y ∧ y < m ∧ m ≤ z ∧ z < k ∧ k < hi ∧ v 57 k = opc (kd u n i) ∧ v 58 k = y ∧ v 59 k = z ∧ RN2 v u n G L l lo m y ∧ v 61 y = fstT u n l ∧ RN2 v u n G L r m k z ∧ v 61 z = fstT u n r
  | .div s e, lo, hi, x => ∃ k y z m : Nat, x = k ∧ lo ≤ y ∧ y < m ∧ m ≤ z ∧ z < k ∧ k < hi ∧ v 57 k = 19 ∧ v 58 k = y ∧ v 59 k = z ∧ RN2 v u n G L s lo m y ∧ v 61 y = fstT u n s ∧ RN2 v u n G L e m k z ∧ v 61 z = fstT u n e
  | .rem s (.sub a b), lo, hi, x => ∃ k y z w m m' : Nat, x = k ∧ lo ≤ y ∧ y < m ∧ m ≤ z ∧ z < m' ∧ m' ≤ w ∧ w < k ∧ k < hi ∧ v 57 k = 20 ∧ v 58 k = y ∧ v 59 k = z ∧ v 60 k = w ∧ RN2 v u n G L s lo m y ∧ v 61 y = fstT u n s ∧ RN2 v u n G L a m m' z ∧ v 61 z = fstT u n a ∧ RN2 v u n G L b m' k w ∧ v 61 w = fstT u n b
  | .op2 .iand (.arg i) e, lo, hi, x => ∃ k y : Nat, x = k ∧ lo ≤ y ∧ y < k ∧ k < hi ∧ v 57 k = one1 (kd u n i) ∧ v 58 k = y ∧ RN2 v u n G L e lo k y ∧ v 61 y = fstT u n e
  | .op2 .ior (.arg _) (.sub a b), lo, hi, x => ∃ k y z m : Nat, x = k ∧ lo ≤ y ∧ y < m ∧ m ≤ z ∧ z < k ∧ k < hi ∧ v 57 k = 22 ∧ v 58 k = y ∧ v 59 k = z ∧ RN2 v u n G L a lo m y ∧ v 61 y = fstT u n a ∧ RN2 v u n G L b m k z ∧ v 61 z = fstT u n b
  | .op2 .ixor (.arg i) as, lo, hi, x => ∃ k : Nat, x = k ∧ lo ≤ k ∧ k < hi ∧ v 57 k = 4 ∧ v 58 k = fno G (vl u n i) ∧ RN2 v u n G L as (k + 1) hi (v 60 k)
  | _, _, _, _ => False
theorem LF2.same {v v' : Mem} {u : Nat → Int} {n i x : Nat} {L : Sc} (h : LF2 v u n L i x) (h7 : v' 57 x = v 57 x) (h8 : v' 58 x = v 58 x) (h9 : v' 59 x = v 59 x) : LF2 v' u n L i x := by
  unfold LF2 at h ⊢
  rw [h7, h8, h9]
  exact h
/-- the nodes of a tree are all that it rests on -/
theorem RN2_same {v v' : Mem} {u : Nat → Int} {n : Nat} {G : Fn} {L : Sc} : ∀ (N : Nat) (e : Jvm.Term), SizeOf.sizeOf e < N → ∀ (lo hi : Nat) (x : Int), (∀ c k, 57 ≤ c → c ≤ 62 → lo ≤ k → k < hi → v' c k = v c k) → RN2 v u n G L e lo hi x → RN2 v' u n G L e lo hi x := by
  intro N
  induction N with
  | zero => intro e he; exact absurd he (Nat.not_lt_zero _)
  | succ N ih =>
    intro e he lo hi x h q
    unfold RN2 at q
    split at q
    · unfold RN2; exact q
    · obtain ⟨k, m, h1, h2, h3, h4, h5, h6, h7⟩ := q
      unfold RN2
      refine ⟨k, m, h1, h2, h3, h4, ih _ (by simp at he; omega) _ _ _ (fun c j a1 a2 a3 a4 => h c j a1 a2 a3 (by omega)) h5, by rw [h 61 k (by omega) (by omega) h2 (by omega)]; exact h6, ?_⟩
      rw [h 62 k (by omega) (by omega) h2 (by omega)]
      exact ih _ (by simp at he; omega) _ _ _ (fun c j a1 a2 a3 a4 => h c j a1 a2 (by omega) a4) h7
    · obtain ⟨k, h1, h2, h3, h4⟩ := q
      unfold RN2
      exact ⟨k, h1, h2, h3, h4.same (h 57 k (by omega) (by omega) h2 h3) (h 58 k (by omega) (by omega) h2 h3) (h 59 k (by omega) (by omega) h2 h3)⟩
    · unfold RN2
      exact ih _ (by simp at he; omega) _ _ _ h q
    · obtain ⟨k, y, h1, h2, h3, h4, h5, h6, h7, h8⟩ := q
      unfold RN2
      refine ⟨k, y, h1, h2, h3, h4, ?_, ?_, ih _ (by simp at he; omega) _ _ _ (fun c j a1 a2 a3 a4 => h c j a1 a2 a3 (by omega)) h7, ?_⟩
      · rw [h 57 k (by omega) (by omega) (by omega) h4]; exact h5
      · rw [h 58 k (by omega) (by omega) (by omega) h4]; exact h6
      · rw [h 61 y (by omega) (by omega) h2 (by omega)]; exact h8
    · obtain ⟨k, y, z, m, h1, h2, h3, h4, h5, h6, h7, h8, h9, g1, g2, g3, g4⟩ := q
      unfold RN2
      refine ⟨k, y, z, m, h1, h2, h3, h4, h5, h6, ?_, ?_, ?_, ih _ (by simp at he; omega) _ _ _ (fun c j a1 a2 a3 a4 => h c j a1 a2 a3 (by omega)) g1, ?_, ih _ (by simp at he; omega) _ _ _ (fun c j a1 a2 a3 a4 => h c j a1 a2 (by omega) (by omega)) g3, ?_⟩
      · rw [h 57 k (by omega) (by omega) (by omega) h6]; exact h7
      · rw [h 58 k (by omega) (by omega) (by omega) h6]; exact h8
      · rw [h 59 k (by omega) (by omega) (by omega) h6]; exact h9
      · rw [h 61 y (by omega) (by omega) h2 (by omega)]; exact g2
      · rw [h 61 z (by omega) (by omega) (by omega) (by omega)]; exact g4
    · obtain ⟨k, y, z, m, h1, h2, h3, h4, h5, h6, h7, h8, h9, g1, g2, g3, g4⟩ := q
      unfold RN2
      refine ⟨k, y, z, m, h1, h2, h3, h4, h5, h6, ?_, ?_, ?_, ih _ (by simp at he; omega) _ _ _ (fun c j a1 a2 a3 a4 => h c j a1 a2 a3 (by omega)) g1, ?_, ih _ (by simp at he; omega) _ _ _ (fun c j a1 a2 a3 a4 => h c j a1 a2 (by omega) (by omega)) g3, ?_⟩
      · rw [h 57 k (by omega) (by omega) (by omega) h6]; exact h7
      · rw [h 58 k (by omega) (by omega) (by omega) h6]; exact h8
      · rw [h 59 k (by omega) (by omega) (by omega) h6]; exact h9
      · rw [h 61 y (by omega) (by omega) h2 (by omega)]; exact g2
      · rw [h 61 z (by omega) (by omega) (by omega) (by omega)]; exact g4
    · obtain ⟨k, y, z, w, m, m', h1, h2, h3, h4, h5, h6, h7, h8, b1, b2, b3, b4, g1, g2, g3, g4, g5, g6⟩ := q
      unfold RN2
      refine ⟨k, y, z, w, m, m', h1, h2, h3, h4, h5, h6, h7, h8, ?_, ?_, ?_, ?_, ih _ (by simp at he; omega) _ _ _ (fun c j a1 a2 a3 a4 => h c j a1 a2 a3 (by omega)) g1, ?_, ih _ (by simp at he; omega) _ _ _ (fun c j a1 a2 a3 a4 => h c j a1 a2 (by omega) (by omega)) g3, ?_, ih _ (by simp at he; omega) _ _ _ (fun c j a1 a2 a3 a4 => h c j a1 a2 (by omega) (by omega)) g5, ?_⟩
      · rw [h 57 k (by omega) (by omega) (by omega) h8]; exact b1
      · rw [h 58 k (by omega) (by omega) (by omega) h8]; exact b2
      · rw [h 59 k (by omega) (by omega) (by omega) h8]; exact b3
      · rw [h 60 k (by omega) (by omega) (by omega) h8]; exact b4
      · rw [h 61 y (by omega) (by omega) h2 (by omega)]; exact g2
      · rw [h 61 z (by omega) (by omega) (by omega) (by omega)]; exact g4
      · rw [h 61 w (by omega) (by omega) (by omega) (by omega)]; exact g6
    · obtain ⟨k, y, h1, h2, h3, h4, h5, h6, h7, h8⟩ := q
      unfold RN2
      refine ⟨k, y, h1, h2, h3, h4, ?_, ?_, ih _ (by simp at he; omega) _ _ _ (fun c j a1 a2 a3 a4 => h c j a1 a2 a3 (by omega)) h7, ?_⟩
      · rw [h 57 k (by omega) (by omega) (by omega) h4]; exact h5
      · rw [h 58 k (by omega) (by omega) (by omega) h4]; exact h6
      · rw [h 61 y (by omega) (by omega) h2 (by omega)]; exact h8
    · obtain ⟨k, y, z, m, h1, h2, h3, h4, h5, h6, h7, h8, h9, g1, g2, g3, g4⟩ := q
      unfold RN2
      refine ⟨k, y, z, m, h1, h2, h3, h4, h5, h6, ?_, ?_, ?_, ih _ (by simp at he; omega) _ _ _ (fun c j a1 a2 a3 a4 => h c j a1 a2 a3 (by omega)) g1, ?_, ih _ (by simp at he; omega) _ _ _ (fun c j a1 a2 a3 a4 => h c j a1 a2 (by omega) (by omega)) g3, ?_⟩
      · rw [h 57 k (by omega) (by omega) (by omega) h6]; exact h7
      · rw [h 58 k (by omega) (by omega) (by omega) h6]; exact h8
      · rw [h 59 k (by omega) (by omega) (by omega) h6]; exact h9
      · rw [h 61 y (by omega) (by omega) h2 (by omega)]; exact g2
      · rw [h 61 z (by omega) (by omega) (by omega) (by omega)]; exact g4
    · obtain ⟨k, h1, h2, h3, h4, h5, h7⟩ := q
      unfold RN2
      refine ⟨k, h1, h2, h3, ?_, ?_, ?_⟩
      · rw [h 57 k (by omega) (by omega) h2 h3]; exact h4
      · rw [h 58 k (by omega) (by omega) h2 h3]; exact h5
      · rw [h 60 k (by omega) (by omega) h2 h3]
        exact ih _ (by simp at he; omega) _ _ _ (fun c j a1 a2 a3 a4 => h c j a1 a2 (by omega) a4) h7
    · exact q.elim
/-- what the names of locals and of FUNCTIONS rest on -/
def NC (v : Mem) (u : Nat → Int) (n : Nat) (G : Fn) (L : Sc) : Prop := TXT 40 v n ∧ uB (v 40) n = u ∧ (v 38 42 = (L.length : Nat) ∧ L.length ≤ 30 ∧ ∃ W, NR v u n 63 64 L.length W ∧ ∀ k, k < L.length → vl u n (W k) = (L.getD k (0, 0)).1) ∧ (v 38 13 = (G.length : Nat) ∧ G.length ≤ 20 ∧ (∃ W, NR v u n 41 42 G.length W ∧ ∀ k, k < G.length → vl u n (W k) = (G.getD k (0, [], 0)).1) ∧ ∀ k, k < G.length → v 43 k = ((G.getD k (0, [], 0)).2.1.length : Nat))
theorem NC.keep {v v' : Mem} {u : Nat → Int} {n : Nat} {G : Fn} {L : Sc} (h : NC v u n G L) (hc : ∀ c, (c = 38 ∨ (40 ≤ c ∧ c ≤ 43) ∨ c = 63 ∨ c = 64) → v' c = v c) : NC v' u n G L := by
  unfold NC NR TXT at *
  rw [hc 38 (by omega), hc 40 (by omega), hc 41 (by omega), hc 42 (by omega), hc 43 (by omega), hc 63 (by omega), hc 64 (by omega)]
  exact h
theorem NC.lfd {t : Int} {d : Nat} {v : Mem} {Q : Int → Mem → Prop} {u : Nat → Int} {n i : Nat} {G : Fn} {L : Sc} (h : NC v u n G L) (hi : kd u n i = 2) (hq : Q (slt L (vl u n i)) v) : RR t (d + 1) 216 [(2, 38), (0, (ps u n i : Int)), (0, ln u n i)] v Q := by
  obtain ⟨h1, h2, ⟨h3, h4, W, h5, h6⟩, -⟩ := h
  refine local_rr h1 h2 hi h3 h4 h5 ?_
  rw [fndA_eq (b' := fun k => (L.getD k (0, 0)).1) L.length 0 (fun j _ hj => h6 j (by omega))]
  exact hq
theorem NC.ffd {t : Int} {d : Nat} {v : Mem} {Q : Int → Mem → Prop} {u : Nat → Int} {n i : Nat} {G : Fn} {L : Sc} (h : NC v u n G L) (hi : kd u n i = 2) (hq : Q (fno G (vl u n i)) v) : RR t (d + 1) 218 [(2, 38), (0, (ps u n i : Int)), (0, ln u n i)] v Q := by
  obtain ⟨h1, h2, -, ⟨h3, h4, ⟨W, h5, h6⟩, -⟩⟩ := h
  refine fnOf_rr h1 h2 hi h3 h4 h5 ?_
  rw [fndA_eq (b' := fun k => (G.getD k (0, [], 0)).1) G.length 0 (fun j _ hj => h6 j (by omega))]
  exact hq
/-- a of nodes lo .. hi - 1 alone -/
def N58 (lo hi : Nat) (v v' : Mem) : Prop := ∀ c k, ¬ (c = 58 ∧ lo ≤ k ∧ k < hi) → v' c k = v c k
/-- a fault of NAMES was told: nodes' a, fault and place alone -/
def NX (v v' : Mem) : Prop := ∀ c k, c ≠ 58 → ¬ (c = 38 ∧ (k = 5 ∨ k = 6)) → v' c k = v c k
theorem N58.refl {lo hi : Nat} (v : Mem) : N58 lo hi v v := fun _ _ _ => rfl
theorem N58.trans {lo hi lo1 hi1 lo2 hi2 : Nat} {v v1 v2 : Mem} (h : N58 lo1 hi1 v v1) (h' : N58 lo2 hi2 v1 v2) (a1 : lo ≤ lo1) (a2 : hi1 ≤ hi) (b1 : lo ≤ lo2) (b2 : hi2 ≤ hi) : N58 lo hi v v2 := fun c k hc => (h' c k (by omega)).trans (h c k (by omega))
theorem N58.wide {lo hi lo1 hi1 : Nat} {v v1 : Mem} (h : N58 lo1 hi1 v v1) (a1 : lo ≤ lo1) (a2 : hi1 ≤ hi) : N58 lo hi v v1 := fun c k hc => h c k (by omega)
theorem N58.cell {lo hi c : Nat} {v v' : Mem} (h : N58 lo hi v v') (hc : c ≠ 58) : v' c = v c := funext fun k => h c k (by omega)
theorem NX.of {lo hi : Nat} {v v1 v2 : Mem} (h : N58 lo hi v v1) (h' : NX v1 v2) : NX v v2 := fun c k h1 h2 => (h' c k h1 h2).trans (h c k (by omega))
theorem NC.n58 {lo hi : Nat} {v v' : Mem} {u : Nat → Int} {n : Nat} {G : Fn} {L : Sc} (h : NC v u n G L) (f : N58 lo hi v v') : NC v' u n G L := h.keep (fun c hc => f.cell (by omega))
theorem NX.fail {v : Mem} {a b : Int} : NX v (up (up v 38 5 a) 38 6 b) := fun c k _ h2 => by rw [upc_ne (by omega), upc_ne (by omega)]
theorem RN.n58 {v v' : Mem} {u : Nat → Int} {n : Nat} {e : Jvm.Term} {lo hi lo1 hi1 : Nat} {x : Int} (h : RN v u n e lo hi x) (f : N58 lo1 hi1 v v') (hd : hi ≤ lo1 ∨ hi1 ≤ lo) : RN v' u n e lo hi x := RN_same _ e (Nat.lt_succ_self _) lo hi x (fun c k _ _ h3 h4 => f c k (by omega)) h
theorem RN2.n58 {v v' : Mem} {u : Nat → Int} {n : Nat} {G : Fn} {L : Sc} {e : Jvm.Term} {lo hi lo1 hi1 : Nat} {x : Int} (h : RN2 v u n G L e lo hi x) (f : N58 lo1 hi1 v v') (hd : hi ≤ lo1 ∨ hi1 ≤ lo) : RN2 v' u n G L e lo hi x := RN2_same _ e (Nat.lt_succ_self _) lo hi x (fun c k _ _ h3 h4 => f c k (by omega)) h
