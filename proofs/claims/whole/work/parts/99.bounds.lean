/-! How many SIGNS and brackets a tree has, how many acts it comes to, how many rows it takes. -/
def sgn : Jvm.Term → Nat
  | .elem _ e => sgn e
  | .mul _ e => sgn e + 1
  | .add _ p => sgn p + 1
  | .div s e => sgn s + sgn e + 1
  | .rem s p => sgn s + sgn p + 1
  | .op2 _ _ e => sgn e + 1
  | .sub a b => sgn a + sgn b
  | _ => 0
def brk : Jvm.Term → Nat
  | .elem _ e => brk e + 1
  | .mul _ e => brk e
  | .add _ p => brk p
  | .div s e => max (brk s) (brk e + 1)
  | .rem s p => max (brk s) (brk p + 1)
  | .op2 _ _ e => brk e + 1
  | .sub a b => max (brk a) (brk b)
  | _ => 0
/-- the most rows at once while an E is worked out; of what is handed over: k being there -/
def tdE : Nat → Jvm.Term → Nat
  | _, .arg _ => 1
  | _, .elem _ e => tdE 0 e
  | _, .mul _ e => tdE 0 e
  | _, .add _ (.sub l r) => max (tdE 0 l) (1 + tdE 0 r)
  | _, .div s e => max (tdE 0 s) (1 + tdE 0 e)
  | _, .rem s (.sub a b) => max (tdE 0 s) (max (1 + tdE 0 a) (2 + tdE 0 b))
  | _, .op2 .iand _ e => tdE 0 e
  | _, .op2 .ior _ (.sub a b) => max (tdE 0 a) (1 + tdE 0 b)
  | _, .op2 .ixor _ as => max 1 (tdE 0 as)
  | k, .sub a r => max (k + tdE 0 a) (tdE (k + 1) r)
  | k, _ => k
theorem PE_sgn {K : Nat → Int} : ∀ (f m : Nat) (x : Jvm.Term) (i sg nb : Nat) (e : Jvm.Term) (i' sg' : Nat), PE K f m x i sg nb = some (.ok (e, i', sg')) → sg ≤ 40 → nb ≤ 8 → (m < 8 ∨ (10 ≤ m ∧ m < 15) ∨ m = 16 ∨ m = 17) → (sg' ≤ 40 ∧ sgn e + sg = (if m < 10 ∨ 16 < m then 0 else sgn x) + sg') ∧ ((if m < 10 ∨ 16 < m then 0 else brk x) + nb ≤ 8 → brk e + nb ≤ 8) := by
  intro f
  induction f with
  | zero => intro m x i sg nb e i' sg' h; cases h
  | succ f ih =>
    intro m x i sg nb e i' sg' h hs hb hm
    by_cases m5 : m < 5
    · rw [PE_row m5] at h
      rcases bnd_some h with ⟨j, -, er⟩ | ⟨y, i1, s1, h1, h2⟩
      · cases er
      · have a1 := ih _ _ _ _ _ _ _ _ h1 hs hb (by omega)
        have a2 := ih _ _ _ _ _ _ _ _ h2 a1.1.1 hb (by omega)
        rw [if_pos (by omega), if_pos (by omega)] at a1
        rw [if_neg (by omega), if_neg (by omega)] at a2
        rw [if_pos (by omega), if_pos (by omega)]
        exact ⟨by omega, fun q => a2.2 (a1.2 q)⟩
    by_cases m5 : m = 5
    · subst m5
      rw [PE_5] at h
      rw [if_pos (by omega), if_pos (by omega)]
      split at h
      · split at h
        · cases h
        · rcases bnd_some h with ⟨j, -, er⟩ | ⟨y, i1, s1, h1, h2⟩
          · cases er
          · have a1 := ih _ _ _ _ _ _ _ _ h1 (by omega) hb (by omega)
            rw [if_pos (by omega), if_pos (by omega)] at a1
            cases h2
            show (_ ∧ sgn y + 1 + sg = _) ∧ (_ → brk y + nb ≤ 8)
            exact ⟨by omega, a1.2⟩
      · have a1 := ih _ _ _ _ _ _ _ _ h hs hb (by omega)
        rw [if_pos (by omega), if_pos (by omega)] at a1
        exact a1
    by_cases m6 : m = 6
    · subst m6
      rw [PE_6] at h
      rcases bnd_some h with ⟨j, -, er⟩ | ⟨y, i1, s1, h1, h2⟩
      · cases er
      · have a1 := ih _ _ _ _ _ _ _ _ h1 hs hb (by omega)
        have a2 := ih _ _ _ _ _ _ _ _ h2 a1.1.1 hb (by omega)
        rw [if_pos (by omega), if_pos (by omega)] at a1
        rw [if_neg (by omega), if_neg (by omega)] at a2
        rw [if_pos (by omega), if_pos (by omega)]
        exact ⟨by omega, fun q => a2.2 (a1.2 q)⟩
    by_cases m7 : m = 7
    · subst m7
      rw [PE_7] at h
      rw [if_pos (by omega), if_pos (by omega)]
      split at h
      · cases h
        show (_ ∧ 0 + sg = _) ∧ (_ → 0 + nb ≤ 8)
        omega
      split at h
      · split at h
        · split at h
          · cases h
          split at h
          · cases h
          split at h
          · cases h
            show (_ ∧ 0 + 1 + sg = _) ∧ (_ → 0 + 1 + nb ≤ 8)
            omega
          · rcases bnd_some h with ⟨j, -, er⟩ | ⟨y, i1, s1, h1, h2⟩
            · cases er
            · have a1 := ih _ _ _ _ _ _ _ _ h1 (by omega) (by omega) (by omega)
              rw [if_pos (by omega), if_pos (by omega)] at a1
              split at h2
              · cases h2
                show (_ ∧ sgn y + 1 + sg = _) ∧ (_ → brk y + 1 + nb ≤ 8)
                omega
              · cases h2
        · cases h
          show (_ ∧ 0 + sg = _) ∧ (_ → 0 + nb ≤ 8)
          omega
      split at h
      · split at h
        · cases h
        · rcases bnd_some h with ⟨j, -, er⟩ | ⟨y, i1, s1, h1, h2⟩
          · cases er
          · have a1 := ih _ _ _ _ _ _ _ _ h1 hs (by omega) (by omega)
            rw [if_pos (by omega), if_pos (by omega)] at a1
            split at h2
            · cases h2
              show (_ ∧ sgn y + sg = _) ∧ (_ → brk y + 1 + nb ≤ 8)
              omega
            · cases h2
      split at h
      · split at h
        · cases h
        split at h
        · rcases bnd_some h with ⟨j, -, er⟩ | ⟨y, i1, s1, h1, h2⟩
          · cases er
          · have a1 := ih _ _ _ _ _ _ _ _ h1 (by omega) (by omega) (by omega)
            rw [if_pos (by omega), if_pos (by omega)] at a1
            split at h2
            · cases h2
              show (_ ∧ sgn y + 1 + sg = _) ∧ (_ → brk y + 1 + nb ≤ 8)
              omega
            · cases h2
        · cases h
      split at h
      · split at h
        · cases h
        split at h
        · rcases bnd_some h with ⟨j, -, er⟩ | ⟨y, i1, s1, h1, h2⟩
          · cases er
          · have a1 := ih _ _ _ _ _ _ _ _ h1 (by omega) (by omega) (by omega)
            rw [if_pos (by omega), if_pos (by omega)] at a1
            split at h2
            · rcases bnd_some h2 with ⟨j, -, er⟩ | ⟨z, i2, s2, h3, h4⟩
              · cases er
              · have a2 := ih _ _ _ _ _ _ _ _ h3 a1.1.1 (by omega) (by omega)
                rw [if_pos (by omega), if_pos (by omega)] at a2
                split at h4
                · cases h4
                  show (_ ∧ sgn y + sgn z + 1 + sg = _) ∧ (_ → max (brk y) (brk z) + 1 + nb ≤ 8)
                  omega
                · cases h4
            · cases h2
        · cases h
      · cases h
    by_cases m15 : 10 ≤ m ∧ m < 15
    · obtain ⟨l, rfl⟩ : ∃ l, m = l + 10 := ⟨m - 10, by omega⟩
      rw [PE_lp (by omega)] at h
      rw [if_neg (by omega), if_neg (by omega)]
      split at h
      · split at h
        · cases h
        · rcases bnd_some h with ⟨j, -, er⟩ | ⟨y, i1, s1, h1, h2⟩
          · cases er
          · have a1 := ih _ _ _ _ _ _ _ _ h1 (by omega) hb (by omega)
            rw [if_pos (by omega), if_pos (by omega)] at a1
            split at h2
            · cases h2
              show (_ ∧ sgn x + sgn y + 1 + sg = _) ∧ (_ → max (brk x) (brk y) + nb ≤ 8)
              omega
            · have a2 := ih _ _ _ _ _ _ _ _ h2 a1.1.1 hb (by omega)
              rw [if_neg (by omega), if_neg (by omega)] at a2
              have e1 : sgn (nodeB i x y) = sgn x + sgn y + 1 := rfl
              have e2 : brk (nodeB i x y) = max (brk x) (brk y) := rfl
              rw [e1, e2] at a2
              omega
      · cases h
        omega
    by_cases m16 : m = 16
    · subst m16
      rw [PE_16] at h
      rw [if_neg (by omega), if_neg (by omega)]
      split at h
      · split at h
        · cases h
        split at h
        · cases h
        rcases bnd_some h with ⟨j, -, er⟩ | ⟨y, i1, s1, h1, h2⟩
        · cases er
        · have a1 := ih _ _ _ _ _ _ _ _ h1 (by omega) (by omega) (by omega)
          rw [if_pos (by omega), if_pos (by omega)] at a1
          split at h2
          · rcases bnd_some h2 with ⟨j, -, er⟩ | ⟨z, i2, s2, h3, h4⟩
            · cases er
            · have a2 := ih _ _ _ _ _ _ _ _ h3 a1.1.1 (by omega) (by omega)
              rw [if_pos (by omega), if_pos (by omega)] at a2
              split at h4
              · have a3 := ih _ _ _ _ _ _ _ _ h4 a2.1.1 hb (by omega)
                rw [if_neg (by omega), if_neg (by omega)] at a3
                have e1 : sgn (.rem x (.sub y z)) = sgn x + (sgn y + sgn z) + 1 := rfl
                have e2 : brk (.rem x (.sub y z)) = max (brk x) (max (brk y) (brk z) + 1) := rfl
                rw [e1, e2] at a3
                omega
              · cases h4
          · split at h2
            · have a3 := ih _ _ _ _ _ _ _ _ h2 a1.1.1 hb (by omega)
              rw [if_neg (by omega), if_neg (by omega)] at a3
              have e1 : sgn (.div x y) = sgn x + sgn y + 1 := rfl
              have e2 : brk (.div x y) = max (brk x) (brk y + 1) := rfl
              rw [e1, e2] at a3
              omega
            · cases h2
      · cases h
        omega
    · have m17 : m = 17 := by omega
      subst m17
      rw [PE_17] at h
      rw [if_pos (by omega), if_pos (by omega)]
      rcases bnd_some h with ⟨j, -, er⟩ | ⟨y, i1, s1, h1, h2⟩
      · cases er
      · have a1 := ih _ _ _ _ _ _ _ _ h1 hs hb (by omega)
        rw [if_pos (by omega), if_pos (by omega)] at a1
        split at h2
        · rcases bnd_some h2 with ⟨j, -, er⟩ | ⟨z, i2, s2, h3, h4⟩
          · cases er
          · have a2 := ih _ _ _ _ _ _ _ _ h3 a1.1.1 hb (by omega)
            rw [if_pos (by omega), if_pos (by omega)] at a2
            cases h4
            show (_ ∧ sgn y + sgn z + sg = _) ∧ (_ → max (brk y) (brk z) + nb ≤ 8)
            omega
        · cases h2
          show (_ ∧ sgn y + 0 + sg = _) ∧ (_ → max (brk y) 0 + nb ≤ 8)
          omega
/-- 6 PARAMETERS at most -/
def P6 (G : Fn) : Prop := ∀ x, (fnP G x).length ≤ 6
/-- how many acts, how many rows -/
theorem E_bnd {u : Nat → Int} {n : Nat} {G : Fn} {L : Sc} (h6 : P6 G) : ∀ (N : Nat) (e : Jvm.Term), SizeOf.sizeOf e < N → (wfE (kd u n) false e → nfE u n G L e = [] → (∀ pc, (coE u n G L e pc).length ≤ 1 + 7 * sgn e) ∧ 1 ≤ tdE 0 e ∧ tdE 0 e ≤ 1 + sgn e + 4 * brk e) ∧ (wfE (kd u n) true e → nfE u n G L e = [] → (∀ pc, (coE u n G L e pc).length ≤ argc e + 7 * sgn e) ∧ ∀ k, k + argc e ≤ 6 → k + argc e ≤ tdE k e ∧ tdE k e ≤ 6 + sgn e + 4 * brk e) := by
  intro N
  induction N with
  | zero => intro e he; exact absurd he (Nat.not_lt_zero _)
  | succ N ih =>
    intro e he
    constructor
    · intro hw hnf
      unfold wfE at hw
      split at hw
      · rename_i h; cases h
      · rename_i h; cases h
      · exact hw.elim
      · exact ⟨fun pc => by show 1 ≤ _; omega, by show 1 ≤ 1; omega, by show 1 ≤ _; omega⟩
      · rename_i i e1 _
        obtain ⟨a1, a2, a3⟩ := (ih e1 (by simp at he; omega)).1 hw hnf
        refine ⟨a1, a2, ?_⟩
        show tdE 0 e1 ≤ 1 + sgn e1 + 4 * (brk e1 + 1)
        omega
      · rename_i i e1 _
        obtain ⟨a1, a2, a3⟩ := (ih e1 (by simp at he; omega)).1 hw.2 hnf
        refine ⟨fun pc => ?_, a2, ?_⟩
        · show (coE u n G L e1 pc ++ [_]).length ≤ 1 + 7 * (sgn e1 + 1)
          rw [List.length_append]
          have := a1 pc
          show (coE u n G L e1 pc).length + 1 ≤ _
          omega
        · show tdE 0 e1 ≤ 1 + (sgn e1 + 1) + 4 * brk e1
          omega
      · rename_i i l r _
        have hnf : nfE u n G L l ++ nfE u n G L r = [] := hnf
        obtain ⟨n1, n2⟩ := List.append_eq_nil_iff.mp hnf
        obtain ⟨a1, a2, a3⟩ := (ih l (by simp at he; omega)).1 hw.2.1 n1
        obtain ⟨b1, b2, b3⟩ := (ih r (by simp at he; omega)).1 hw.2.2 n2
        refine ⟨fun pc => ?_, ?_, ?_⟩
        · show (if lvl (kd u n i) ≤ 1 then _ else if lvl (kd u n i) = 2 then _ else _ : Ac).length ≤ 1 + 7 * (sgn l + sgn r + 1)
          have c1 := a1 pc
          split
          · rw [List.length_append, List.length_cons, List.length_append]
            have c2 := b1 (pc + (coE u n G L l pc).length + 1)
            show _ + (_ + 1 + 1) ≤ _
            omega
          · split
            · rw [List.length_append, List.length_append]
              have c2 := b1 (pc + (coE u n G L l pc).length)
              show _ + (_ + 1) ≤ _
              omega
            · rw [List.length_append, List.length_append]
              have c2 := b1 (pc + (coE u n G L l pc).length)
              show _ + (_ + 1) ≤ _
              omega
        · show 1 ≤ max (tdE 0 l) (1 + tdE 0 r)
          omega
        · show max (tdE 0 l) (1 + tdE 0 r) ≤ 1 + (sgn l + sgn r + 1) + 4 * max (brk l) (brk r)
          omega
      · rename_i s e1 _
        have hnf : nfE u n G L s ++ nfE u n G L e1 = [] := hnf
        obtain ⟨n1, n2⟩ := List.append_eq_nil_iff.mp hnf
        obtain ⟨a1, a2, a3⟩ := (ih s (by simp at he; omega)).1 hw.1 n1
        obtain ⟨b1, b2, b3⟩ := (ih e1 (by simp at he; omega)).1 hw.2 n2
        refine ⟨fun pc => ?_, ?_, ?_⟩
        · show (coE u n G L s pc ++ (coE u n G L e1 _ ++ [_])).length ≤ 1 + 7 * (sgn s + sgn e1 + 1)
          rw [List.length_append, List.length_append]
          have c1 := a1 pc
          have c2 := b1 (pc + (coE u n G L s pc).length)
          show _ + (_ + 1) ≤ _
          omega
        · show 1 ≤ max (tdE 0 s) (1 + tdE 0 e1)
          omega
        · show max (tdE 0 s) (1 + tdE 0 e1) ≤ 1 + (sgn s + sgn e1 + 1) + 4 * max (brk s) (brk e1 + 1)
          omega
      · rename_i s a b _
        have hnf : nfE u n G L s ++ (nfE u n G L a ++ nfE u n G L b) = [] := hnf
        obtain ⟨n1, n23⟩ := List.append_eq_nil_iff.mp hnf
        obtain ⟨n2, n3⟩ := List.append_eq_nil_iff.mp n23
        obtain ⟨a1, a2, a3⟩ := (ih s (by simp at he; omega)).1 hw.1 n1
        obtain ⟨b1, b2, b3⟩ := (ih a (by simp at he; omega)).1 hw.2.1 n2
        obtain ⟨c1, c2, c3⟩ := (ih b (by simp at he; omega)).1 hw.2.2 n3
        refine ⟨fun pc => ?_, ?_, ?_⟩
        · show (coE u n G L s pc ++ ((coE u n G L a _ ++ coE u n G L b _) ++ [_])).length ≤ 1 + 7 * (sgn s + (sgn a + sgn b) + 1)
          rw [List.length_append, List.length_append, List.length_append]
          have d1 := a1 pc
          have d2 := b1 (pc + (coE u n G L s pc).length)
          have d3 := c1 (pc + (coE u n G L s pc).length + (coE u n G L a (pc + (coE u n G L s pc).length)).length)
          show _ + (_ + _ + 1) ≤ _
          omega
        · show 1 ≤ max (tdE 0 s) (max (1 + tdE 0 a) (2 + tdE 0 b))
          omega
        · show max (tdE 0 s) (max (1 + tdE 0 a) (2 + tdE 0 b)) ≤ 1 + (sgn s + (sgn a + sgn b) + 1) + 4 * max (brk s) (max (brk a) (brk b) + 1)
          omega
      · rename_i i e1 _
        obtain ⟨a1, a2, a3⟩ := (ih e1 (by simp at he; omega)).1 hw.2 hnf
        refine ⟨fun pc => ?_, a2, ?_⟩
        · show (coE u n G L e1 pc ++ [_]).length ≤ 1 + 7 * (sgn e1 + 1)
          rw [List.length_append]
          have := a1 pc
          show (coE u n G L e1 pc).length + 1 ≤ _
          omega
        · show tdE 0 e1 ≤ 1 + (sgn e1 + 1) + 4 * (brk e1 + 1)
          omega
      · rename_i i a b _
        have hnf : nfE u n G L a ++ nfE u n G L b = [] := hnf
        obtain ⟨n1, n2⟩ := List.append_eq_nil_iff.mp hnf
        obtain ⟨a1, a2, a3⟩ := (ih a (by simp at he; omega)).1 hw.1 n1
        obtain ⟨b1, b2, b3⟩ := (ih b (by simp at he; omega)).1 hw.2 n2
        refine ⟨fun pc => ?_, ?_, ?_⟩
        · show ((coE u n G L a pc ++ coE u n G L b _) ++ [_]).length ≤ 1 + 7 * (sgn a + sgn b + 1)
          rw [List.length_append, List.length_append]
          have c1 := a1 pc
          have c2 := b1 (pc + (coE u n G L a pc).length)
          show _ + _ + 1 ≤ _
          omega
        · show 1 ≤ max (tdE 0 a) (1 + tdE 0 b)
          omega
        · show max (tdE 0 a) (1 + tdE 0 b) ≤ 1 + (sgn a + sgn b + 1) + 4 * (max (brk a) (brk b) + 1)
          omega
      · rename_i i as _
        have hnf : (if fno G (vl u n i) = -1 ∨ ¬ (fnP G (vl u n i)).length = argc as then [ps u n i] else []) ++ nfE u n G L as = [] := hnf
        obtain ⟨n1, n2⟩ := List.append_eq_nil_iff.mp hnf
        have hc : (fnP G (vl u n i)).length = argc as := by
          by_cases q : (fnP G (vl u n i)).length = argc as
          · exact q
          · rw [if_pos (Or.inr q)] at n1
            cases n1
        have h6' := h6 (vl u n i)
        obtain ⟨a1, a2⟩ := (ih as (by simp at he; omega)).2 hw.2 n2
        obtain ⟨a3, a4⟩ := a2 0 (by omega)
        refine ⟨fun pc => ?_, ?_, ?_⟩
        · show (coE u n G L as pc ++ [_]).length ≤ 1 + 7 * (sgn as + 1)
          rw [List.length_append]
          have := a1 pc
          show (coE u n G L as pc).length + 1 ≤ _
          omega
        · show 1 ≤ max 1 (tdE 0 as)
          omega
        · show max 1 (tdE 0 as) ≤ 1 + (sgn as + 1) + 4 * (brk as + 1)
          omega
      · exact hw.elim
    · intro hw hnf
      match e, he, hw, hnf with
      | .null, he, hw, hnf =>
        refine ⟨fun pc => by show 0 ≤ _; omega, fun k hk => ?_⟩
        show k + 0 ≤ k ∧ k ≤ 6 + 0 + 4 * 0
        have : k + 0 ≤ 6 := hk
        omega
      | .sub a r, he, hw, hnf =>
        have hnf : nfE u n G L a ++ nfE u n G L r = [] := hnf
        obtain ⟨n1, n2⟩ := List.append_eq_nil_iff.mp hnf
        obtain ⟨a1, a2, a3⟩ := (ih a (by simp at he; omega)).1 hw.1 n1
        obtain ⟨b1, b2⟩ := (ih r (by simp at he; omega)).2 hw.2 n2
        refine ⟨fun pc => ?_, fun k hk => ?_⟩
        · show (coE u n G L a pc ++ coE u n G L r _).length ≤ argc r + 1 + 7 * (sgn a + sgn r)
          rw [List.length_append]
          have c1 := a1 pc
          have c2 := b1 (pc + (coE u n G L a pc).length)
          omega
        · have hk : k + (argc r + 1) ≤ 6 := hk
          obtain ⟨c1, c2⟩ := b2 (k + 1) (by omega)
          show k + (argc r + 1) ≤ max (k + tdE 0 a) (tdE (k + 1) r) ∧ max (k + tdE 0 a) (tdE (k + 1) r) ≤ 6 + (sgn a + sgn r) + 4 * max (brk a) (brk r)
          omega
