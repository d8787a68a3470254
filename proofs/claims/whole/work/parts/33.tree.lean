/-! The reference's nodes and the trees that they stand for. -/
theorem PE_row {K : Nat → Int} {f m : Nat} {x : Jvm.Term} {i sg nb : Nat} (h : m < 5) : PE K (f + 1) m x i sg nb = bnd (PE K f (m + 1) x i sg nb) (fun e i1 s1 => PE K f (m + 10) e i1 s1 nb) := by
  show (if m < 5 then _ else _) = _
  rw [if_pos h]
theorem PE_5 {K : Nat → Int} {f : Nat} {x : Jvm.Term} {i sg nb : Nat} : PE K (f + 1) 5 x i sg nb = (if K i = 45 ∨ K i = 33 then (if 40 ≤ sg then erP i else bnd (PE K f 5 x (i + 1) (sg + 1) nb) (fun e i1 s1 => okP (.mul (.arg i) e) i1 s1)) else PE K f 6 x i sg nb) := rfl
theorem PE_6 {K : Nat → Int} {f : Nat} {x : Jvm.Term} {i sg nb : Nat} : PE K (f + 1) 6 x i sg nb = bnd (PE K f 7 x i sg nb) (fun e i1 s1 => PE K f 16 e i1 s1 nb) := rfl
theorem PE_7 {K : Nat → Int} {f : Nat} {x : Jvm.Term} {i sg nb : Nat} : PE K (f + 1) 7 x i sg nb = (
      if K i = 3 ∨ K i = 4 then okP (.arg i) (i + 1) sg
      else if K i = 2 then (if K (i + 1) = 40 then (if 40 ≤ sg then erP i else if 8 ≤ nb then erP (i + 1) else if K (i + 2) = 41 then okP (.op2 .ixor (.arg i) .null) (i + 3) (sg + 1)
          else bnd (PE K f 17 x (i + 2) (sg + 1) (nb + 1)) (fun as i1 s1 => if K i1 = 41 then okP (.op2 .ixor (.arg i) as) (i1 + 1) s1 else erP i1)) else okP (.arg i) (i + 1) sg)
      else if K i = 40 then (if 8 ≤ nb then erP i else bnd (PE K f 0 x (i + 1) sg (nb + 1)) (fun e i1 s1 => if K i1 = 41 then okP (.elem (.arg i) e) (i1 + 1) s1 else erP i1))
      else if K i = 18 ∨ K i = 11 ∨ K i = 23 then (if 40 ≤ sg then erP i else if K (i + 1) = 40 ∧ nb < 8 then bnd (PE K f 0 x (i + 2) (sg + 1) (nb + 1)) (fun e i1 s1 => if K i1 = 41 then okP (.op2 .iand (.arg i) e) (i1 + 1) s1 else erP i1) else erP (i + 1))
      else if K i = 14 then (if 40 ≤ sg then erP i else if K (i + 1) = 40 ∧ nb < 8 then bnd (PE K f 0 x (i + 2) (sg + 1) (nb + 1)) (fun a i1 s1 => if K i1 = 44 then bnd (PE K f 0 x (i1 + 1) s1 (nb + 1)) (fun b i2 s2 => if K i2 = 41 then okP (.op2 .ior (.arg i) (.sub a b)) (i2 + 1) s2 else erP i2) else erP i1) else erP (i + 1))
      else erP i) := rfl
theorem PE_16 {K : Nat → Int} {f : Nat} {x : Jvm.Term} {i sg nb : Nat} : PE K (f + 1) 16 x i sg nb = (if K i = 91 then (if 40 ≤ sg then erP i else if 8 ≤ nb then erP i else bnd (PE K f 0 x (i + 1) (sg + 1) (nb + 1)) (fun a i1 s1 =>
        if K i1 = 58 then bnd (PE K f 0 x (i1 + 1) s1 (nb + 1)) (fun b i2 s2 => if K i2 = 93 then PE K f 16 (.rem x (.sub a b)) (i2 + 1) s2 nb else erP i2)
        else if K i1 = 93 then PE K f 16 (.div x a) (i1 + 1) s1 nb else erP i1)) else okP x i sg) := rfl
theorem PE_17 {K : Nat → Int} {f : Nat} {x : Jvm.Term} {i sg nb : Nat} : PE K (f + 1) 17 x i sg nb = bnd (PE K f 0 x i sg nb) (fun e i1 s1 => if K i1 = 44 then bnd (PE K f 17 x (i1 + 1) s1 nb) (fun r i2 s2 => okP (.sub e r) i2 s2) else okP (.sub e .null) i1 s1) := rfl
theorem PE_lp {K : Nat → Int} {f l : Nat} {x : Jvm.Term} {i sg nb : Nat} (hl : l < 5) : PE K (f + 1) (l + 10) x i sg nb = (if lvl (K i) = l then (if 40 ≤ sg then erP i else bnd (PE K f (l + 1) x (i + 1) (sg + 1) nb) (fun y i1 s1 => if l = 2 then okP (nodeB i x y) i1 s1 else PE K f (l + 10) (nodeB i x y) i1 s1 nb)) else okP x i sg) := by
  match l, hl with
  | 0, _ => show (if lvl (K i) + 10 = 10 then _ else _) = _; by_cases h : lvl (K i) = 0 <;> simp [h] <;> rfl
  | 1, _ => show (if lvl (K i) + 10 = 11 then _ else _) = _; by_cases h : lvl (K i) = 1 <;> simp [h] <;> rfl
  | 2, _ => show (if lvl (K i) + 10 = 12 then _ else _) = _; by_cases h : lvl (K i) = 2 <;> simp [h] <;> rfl
  | 3, _ => show (if lvl (K i) + 10 = 13 then _ else _) = _; by_cases h : lvl (K i) = 3 <;> simp [h] <;> rfl
  | 4, _ => show (if lvl (K i) + 10 = 14 then _ else _) = _; by_cases h : lvl (K i) = 4 <;> simp [h] <;> rfl
/-- the place of an E's first word -/
def fstT (u : Nat → Int) (n : Nat) : Jvm.Term → Int
  | .arg i => ps u n i
  | .elem (.arg i) _ => ps u n i
  | .mul (.arg i) _ => ps u n i
  | .add _ (.sub l _) => fstT u n l
  | .div t _ => fstT u n t
  | .rem t _ => fstT u n t
  | .op2 _ (.arg i) _ => ps u n i
  | _ => 0
/-- how many bytes word i has -/
def ln (u : Nat → Int) (n i : Nat) : Int := ((wordAt u n (ps u n i)).2.1 : Int) - (ps u n i : Int)
def one1 (k : Int) : Int := if k = 18 then 21 else if k = 11 then 23 else 24
/-- node x stands for the word i alone -/
def LF (v : Mem) (u : Nat → Int) (n i x : Nat) : Prop := (kd u n i = 3 → v 57 x = 1 ∧ v 58 x = vl u n i) ∧ (kd u n i = 4 → v 57 x = 2 ∧ v 58 x = (ps u n i : Int) + 1 ∧ v 59 x = vl u n i) ∧ (kd u n i = 2 → v 57 x = 3 ∧ v 58 x = ps u n i ∧ v 59 x = ln u n i) ∧ (kd u n i = 3 ∨ kd u n i = 4 ∨ kd u n i = 2)
/-- node x, and all below it, in lo .. hi - 1, stand for the tree (but for x's own first place and 'more'); of a row of what is handed over: x is the first one, -1 for none -/
def RN (v : Mem) (u : Nat → Int) (n : Nat) : Jvm.Term → Nat → Nat → Int → Prop
  | .null, lo, hi, x => lo ≤ hi ∧ x = -1
  | .sub e r, lo, hi, x => ∃ (k m : Nat), x = k ∧ lo ≤ k ∧ k < m ∧ m ≤ hi ∧ RN v u n e lo m k ∧ v 61 k = fstT u n e ∧ RN v u n r m hi (v 62 k)
  | .arg i, lo, hi, x => ∃ k : Nat, x = k ∧ lo ≤ k ∧ k < hi ∧ LF v u n i k
  | .elem (.arg _) e, lo, hi, x => RN v u n e lo hi x
  | .mul (.arg i) e, lo, hi, x => ∃ k y : Nat, x = k ∧ lo ≤ y ∧ y < k ∧ k < hi ∧ v 57 k = (if kd u n i = 45 then 5 else 6) ∧ v 58 k = y ∧ RN v u n e lo k y ∧ v 61 y = fstT u n e
  | .add (.arg i) (.sub l r), lo, hi, x => ∃ k y z m : Nat, x = k ∧ lo ≤ y ∧ y < m ∧ m ≤ z ∧ z < k ∧ k < hi ∧ v 57 k = opc (kd u n i) ∧ v 58 k = y ∧ v 59 k = z ∧ RN v u n l lo m y ∧ v 61 y = fstT u n l ∧ RN v u n r m k z ∧ v 61 z = fstT u n r
  | .div s e, lo, hi, x => ∃ k y z m : Nat, x = k ∧ lo ≤ y ∧ y < m ∧ m ≤ z ∧ z < k ∧ k < hi ∧ v 57 k = 19 ∧ v 58 k = y ∧ v 59 k = z ∧ RN v u n s lo m y ∧ v 61 y = fstT u n s ∧ RN v u n e m k z ∧ v 61 z = fstT u n e
  | .rem s (.sub a b), lo, hi, x => ∃ k y z w m m' : Nat, x = k ∧ lo ≤ y ∧ y < m ∧ m ≤ z ∧ z < m' ∧ m' ≤ w ∧ w < k ∧ k < hi ∧ v 57 k = 20 ∧ v 58 k = y ∧ v 59 k = z ∧ v 60 k = w ∧ RN v u n s lo m y ∧ v 61 y = fstT u n s ∧ RN v u n a m m' z ∧ v 61 z = fstT u n a ∧ RN v u n b m' k w ∧ v 61 w = fstT u n b
  | .op2 .iand (.arg i) e, lo, hi, x => ∃ k y : Nat, x = k ∧ lo ≤ y ∧ y < k ∧ k < hi ∧ v 57 k = one1 (kd u n i) ∧ v 58 k = y ∧ RN v u n e lo k y ∧ v 61 y = fstT u n e
  | .op2 .ior (.arg _) (.sub a b), lo, hi, x => ∃ k y z m : Nat, x = k ∧ lo ≤ y ∧ y < m ∧ m ≤ z ∧ z < k ∧ k < hi ∧ v 57 k = 22 ∧ v 58 k = y ∧ v 59 k = z ∧ RN v u n a lo m y ∧ v 61 y = fstT u n a ∧ RN v u n b m k z ∧ v 61 z = fstT u n b
  | .op2 .ixor (.arg i) as, lo, hi, x => ∃ k : Nat, x = k ∧ lo ≤ k ∧ k < hi ∧ v 57 k = 4 ∧ v 58 k = ps u n i ∧ v 59 k = ln u n i ∧ RN v u n as (k + 1) hi (v 60 k)
  | _, _, _, _ => False
theorem LF.same {v v' : Mem} {u : Nat → Int} {n i x : Nat} (h : LF v u n i x) (h7 : v' 57 x = v 57 x) (h8 : v' 58 x = v 58 x) (h9 : v' 59 x = v 59 x) : LF v' u n i x := by
  unfold LF at h ⊢
  rw [h7, h8, h9]
  exact h
/-- the nodes of a tree are all that it rests on -/
theorem RN_same {v v' : Mem} {u : Nat → Int} {n : Nat} : ∀ (N : Nat) (e : Jvm.Term), SizeOf.sizeOf e < N → ∀ (lo hi : Nat) (x : Int), (∀ c k, 57 ≤ c → c ≤ 62 → lo ≤ k → k < hi → v' c k = v c k) → RN v u n e lo hi x → RN v' u n e lo hi x := by
  intro N
  induction N with
  | zero => intro e he; exact absurd he (Nat.not_lt_zero _)
  | succ N ih =>
    intro e he lo hi x h q
    unfold RN at q
    split at q
    · unfold RN; exact q
    · obtain ⟨k, m, h1, h2, h3, h4, h5, h6, h7⟩ := q
      unfold RN
      refine ⟨k, m, h1, h2, h3, h4, ih _ (by simp at he; omega) _ _ _ (fun c j a1 a2 a3 a4 => h c j a1 a2 a3 (by omega)) h5, by rw [h 61 k (by omega) (by omega) h2 (by omega)]; exact h6, ?_⟩
      rw [h 62 k (by omega) (by omega) h2 (by omega)]
      exact ih _ (by simp at he; omega) _ _ _ (fun c j a1 a2 a3 a4 => h c j a1 a2 (by omega) a4) h7
    · obtain ⟨k, h1, h2, h3, h4⟩ := q
      unfold RN
      exact ⟨k, h1, h2, h3, h4.same (h 57 k (by omega) (by omega) h2 h3) (h 58 k (by omega) (by omega) h2 h3) (h 59 k (by omega) (by omega) h2 h3)⟩
    · unfold RN
      exact ih _ (by simp at he; omega) _ _ _ h q
    · obtain ⟨k, y, h1, h2, h3, h4, h5, h6, h7, h8⟩ := q
      unfold RN
      refine ⟨k, y, h1, h2, h3, h4, ?_, ?_, ih _ (by simp at he; omega) _ _ _ (fun c j a1 a2 a3 a4 => h c j a1 a2 a3 (by omega)) h7, ?_⟩
      · rw [h 57 k (by omega) (by omega) (by omega) h4]; exact h5
      · rw [h 58 k (by omega) (by omega) (by omega) h4]; exact h6
      · rw [h 61 y (by omega) (by omega) h2 (by omega)]; exact h8
    · obtain ⟨k, y, z, m, h1, h2, h3, h4, h5, h6, h7, h8, h9, g1, g2, g3, g4⟩ := q
      unfold RN
      refine ⟨k, y, z, m, h1, h2, h3, h4, h5, h6, ?_, ?_, ?_, ih _ (by simp at he; omega) _ _ _ (fun c j a1 a2 a3 a4 => h c j a1 a2 a3 (by omega)) g1, ?_, ih _ (by simp at he; omega) _ _ _ (fun c j a1 a2 a3 a4 => h c j a1 a2 (by omega) (by omega)) g3, ?_⟩
      · rw [h 57 k (by omega) (by omega) (by omega) h6]; exact h7
      · rw [h 58 k (by omega) (by omega) (by omega) h6]; exact h8
      · rw [h 59 k (by omega) (by omega) (by omega) h6]; exact h9
      · rw [h 61 y (by omega) (by omega) h2 (by omega)]; exact g2
      · rw [h 61 z (by omega) (by omega) (by omega) (by omega)]; exact g4
    · obtain ⟨k, y, z, m, h1, h2, h3, h4, h5, h6, h7, h8, h9, g1, g2, g3, g4⟩ := q
      unfold RN
      refine ⟨k, y, z, m, h1, h2, h3, h4, h5, h6, ?_, ?_, ?_, ih _ (by simp at he; omega) _ _ _ (fun c j a1 a2 a3 a4 => h c j a1 a2 a3 (by omega)) g1, ?_, ih _ (by simp at he; omega) _ _ _ (fun c j a1 a2 a3 a4 => h c j a1 a2 (by omega) (by omega)) g3, ?_⟩
      · rw [h 57 k (by omega) (by omega) (by omega) h6]; exact h7
      · rw [h 58 k (by omega) (by omega) (by omega) h6]; exact h8
      · rw [h 59 k (by omega) (by omega) (by omega) h6]; exact h9
      · rw [h 61 y (by omega) (by omega) h2 (by omega)]; exact g2
      · rw [h 61 z (by omega) (by omega) (by omega) (by omega)]; exact g4
    · obtain ⟨k, y, z, w, m, m', h1, h2, h3, h4, h5, h6, h7, h8, b1, b2, b3, b4, g1, g2, g3, g4, g5, g6⟩ := q
      unfold RN
      refine ⟨k, y, z, w, m, m', h1, h2, h3, h4, h5, h6, h7, h8, ?_, ?_, ?_, ?_, ih _ (by simp at he; omega) _ _ _ (fun c j a1 a2 a3 a4 => h c j a1 a2 a3 (by omega)) g1, ?_, ih _ (by simp at he; omega) _ _ _ (fun c j a1 a2 a3 a4 => h c j a1 a2 (by omega) (by omega)) g3, ?_, ih _ (by simp at he; omega) _ _ _ (fun c j a1 a2 a3 a4 => h c j a1 a2 (by omega) (by omega)) g5, ?_⟩
      · rw [h 57 k (by omega) (by omega) (by omega) h8]; exact b1
      · rw [h 58 k (by omega) (by omega) (by omega) h8]; exact b2
      · rw [h 59 k (by omega) (by omega) (by omega) h8]; exact b3
      · rw [h 60 k (by omega) (by omega) (by omega) h8]; exact b4
      · rw [h 61 y (by omega) (by omega) h2 (by omega)]; exact g2
      · rw [h 61 z (by omega) (by omega) (by omega) (by omega)]; exact g4
      · rw [h 61 w (by omega) (by omega) (by omega) (by omega)]; exact g6
    · obtain ⟨k, y, h1, h2, h3, h4, h5, h6, h7, h8⟩ := q
      unfold RN
      refine ⟨k, y, h1, h2, h3, h4, ?_, ?_, ih _ (by simp at he; omega) _ _ _ (fun c j a1 a2 a3 a4 => h c j a1 a2 a3 (by omega)) h7, ?_⟩
      · rw [h 57 k (by omega) (by omega) (by omega) h4]; exact h5
      · rw [h 58 k (by omega) (by omega) (by omega) h4]; exact h6
      · rw [h 61 y (by omega) (by omega) h2 (by omega)]; exact h8
    · obtain ⟨k, y, z, m, h1, h2, h3, h4, h5, h6, h7, h8, h9, g1, g2, g3, g4⟩ := q
      unfold RN
      refine ⟨k, y, z, m, h1, h2, h3, h4, h5, h6, ?_, ?_, ?_, ih _ (by simp at he; omega) _ _ _ (fun c j a1 a2 a3 a4 => h c j a1 a2 a3 (by omega)) g1, ?_, ih _ (by simp at he; omega) _ _ _ (fun c j a1 a2 a3 a4 => h c j a1 a2 (by omega) (by omega)) g3, ?_⟩
      · rw [h 57 k (by omega) (by omega) (by omega) h6]; exact h7
      · rw [h 58 k (by omega) (by omega) (by omega) h6]; exact h8
      · rw [h 59 k (by omega) (by omega) (by omega) h6]; exact h9
      · rw [h 61 y (by omega) (by omega) h2 (by omega)]; exact g2
      · rw [h 61 z (by omega) (by omega) (by omega) (by omega)]; exact g4
    · obtain ⟨k, h1, h2, h3, h4, h5, h6, h7⟩ := q
      unfold RN
      refine ⟨k, h1, h2, h3, ?_, ?_, ?_, ?_⟩
      · rw [h 57 k (by omega) (by omega) h2 h3]; exact h4
      · rw [h 58 k (by omega) (by omega) h2 h3]; exact h5
      · rw [h 59 k (by omega) (by omega) h2 h3]; exact h6
      · rw [h 60 k (by omega) (by omega) h2 h3]
        exact ih _ (by simp at he; omega) _ _ _ (fun c j a1 a2 a3 a4 => h c j a1 a2 (by omega) a4) h7
    · exact q.elim
