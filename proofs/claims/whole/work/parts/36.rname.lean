/-! The reference reads an E: names, what is handed over, ATOM. -/
theorem RN_top {v v' : Mem} {u : Nat → Int} {n : Nat} : ∀ (N : Nat) (e : Jvm.Term), SizeOf.sizeOf e < N → ∀ (lo hi : Nat) (x : Int), (∀ c k, 57 ≤ c → c ≤ 62 → lo ≤ k → k < hi → (c < 61 ∨ (k : Int) ≠ x) → v' c k = v c k) → isE e → RN v u n e lo hi x → RN v' u n e lo hi x := by
  intro N
  induction N with
  | zero => intro e he; exact absurd he (Nat.not_lt_zero _)
  | succ N ih =>
    intro e he lo hi x h hE q
    unfold RN at q
    split at q
    · exact hE.elim
    · exact hE.elim
    · obtain ⟨k, h1, h2, h3, h4⟩ := q
      unfold RN
      exact ⟨k, h1, h2, h3, h4.same (h 57 k (by omega) (by omega) h2 h3 (Or.inl (by omega))) (h 58 k (by omega) (by omega) h2 h3 (Or.inl (by omega))) (h 59 k (by omega) (by omega) h2 h3 (Or.inl (by omega)))⟩
    · unfold RN
      exact ih _ (by simp at he; omega) _ _ _ h hE q
    · obtain ⟨k, y, h1, h2, h3, h4, h5, h6, h7, h8⟩ := q
      unfold RN
      refine ⟨k, y, h1, h2, h3, h4, ?_, ?_, RN_same _ _ (Nat.lt_succ_self _) _ _ _ (fun c j a1 a2 a3 a4 => h c j a1 a2 a3 (by omega) (Or.inr (by omega))) h7, ?_⟩
      · rw [h 57 k (by omega) (by omega) (by omega) h4 (Or.inl (by omega))]; exact h5
      · rw [h 58 k (by omega) (by omega) (by omega) h4 (Or.inl (by omega))]; exact h6
      · rw [h 61 y (by omega) (by omega) h2 (by omega) (Or.inr (by omega))]; exact h8
    · obtain ⟨k, y, z, m, h1, h2, h3, h4, h5, h6, h7, h8, h9, g1, g2, g3, g4⟩ := q
      unfold RN
      refine ⟨k, y, z, m, h1, h2, h3, h4, h5, h6, ?_, ?_, ?_, RN_same _ _ (Nat.lt_succ_self _) _ _ _ (fun c j a1 a2 a3 a4 => h c j a1 a2 a3 (by omega) (Or.inr (by omega))) g1, ?_, RN_same _ _ (Nat.lt_succ_self _) _ _ _ (fun c j a1 a2 a3 a4 => h c j a1 a2 (by omega) (by omega) (Or.inr (by omega))) g3, ?_⟩
      · rw [h 57 k (by omega) (by omega) (by omega) h6 (Or.inl (by omega))]; exact h7
      · rw [h 58 k (by omega) (by omega) (by omega) h6 (Or.inl (by omega))]; exact h8
      · rw [h 59 k (by omega) (by omega) (by omega) h6 (Or.inl (by omega))]; exact h9
      · rw [h 61 y (by omega) (by omega) h2 (by omega) (Or.inr (by omega))]; exact g2
      · rw [h 61 z (by omega) (by omega) (by omega) (by omega) (Or.inr (by omega))]; exact g4
    · obtain ⟨k, y, z, m, h1, h2, h3, h4, h5, h6, h7, h8, h9, g1, g2, g3, g4⟩ := q
      unfold RN
      refine ⟨k, y, z, m, h1, h2, h3, h4, h5, h6, ?_, ?_, ?_, RN_same _ _ (Nat.lt_succ_self _) _ _ _ (fun c j a1 a2 a3 a4 => h c j a1 a2 a3 (by omega) (Or.inr (by omega))) g1, ?_, RN_same _ _ (Nat.lt_succ_self _) _ _ _ (fun c j a1 a2 a3 a4 => h c j a1 a2 (by omega) (by omega) (Or.inr (by omega))) g3, ?_⟩
      · rw [h 57 k (by omega) (by omega) (by omega) h6 (Or.inl (by omega))]; exact h7
      · rw [h 58 k (by omega) (by omega) (by omega) h6 (Or.inl (by omega))]; exact h8
      · rw [h 59 k (by omega) (by omega) (by omega) h6 (Or.inl (by omega))]; exact h9
      · rw [h 61 y (by omega) (by omega) h2 (by omega) (Or.inr (by omega))]; exact g2
      · rw [h 61 z (by omega) (by omega) (by omega) (by omega) (Or.inr (by omega))]; exact g4
    · obtain ⟨k, y, z, w, m, m', h1, h2, h3, h4, h5, h6, h7, h8, b1, b2, b3, b4, g1, g2, g3, g4, g5, g6⟩ := q
      unfold RN
      refine ⟨k, y, z, w, m, m', h1, h2, h3, h4, h5, h6, h7, h8, ?_, ?_, ?_, ?_, RN_same _ _ (Nat.lt_succ_self _) _ _ _ (fun c j a1 a2 a3 a4 => h c j a1 a2 a3 (by omega) (Or.inr (by omega))) g1, ?_, RN_same _ _ (Nat.lt_succ_self _) _ _ _ (fun c j a1 a2 a3 a4 => h c j a1 a2 (by omega) (by omega) (Or.inr (by omega))) g3, ?_, RN_same _ _ (Nat.lt_succ_self _) _ _ _ (fun c j a1 a2 a3 a4 => h c j a1 a2 (by omega) (by omega) (Or.inr (by omega))) g5, ?_⟩
      · rw [h 57 k (by omega) (by omega) (by omega) h8 (Or.inl (by omega))]; exact b1
      · rw [h 58 k (by omega) (by omega) (by omega) h8 (Or.inl (by omega))]; exact b2
      · rw [h 59 k (by omega) (by omega) (by omega) h8 (Or.inl (by omega))]; exact b3
      · rw [h 60 k (by omega) (by omega) (by omega) h8 (Or.inl (by omega))]; exact b4
      · rw [h 61 y (by omega) (by omega) h2 (by omega) (Or.inr (by omega))]; exact g2
      · rw [h 61 z (by omega) (by omega) (by omega) (by omega) (Or.inr (by omega))]; exact g4
      · rw [h 61 w (by omega) (by omega) (by omega) (by omega) (Or.inr (by omega))]; exact g6
    · obtain ⟨k, y, h1, h2, h3, h4, h5, h6, h7, h8⟩ := q
      unfold RN
      refine ⟨k, y, h1, h2, h3, h4, ?_, ?_, RN_same _ _ (Nat.lt_succ_self _) _ _ _ (fun c j a1 a2 a3 a4 => h c j a1 a2 a3 (by omega) (Or.inr (by omega))) h7, ?_⟩
      · rw [h 57 k (by omega) (by omega) (by omega) h4 (Or.inl (by omega))]; exact h5
      · rw [h 58 k (by omega) (by omega) (by omega) h4 (Or.inl (by omega))]; exact h6
      · rw [h 61 y (by omega) (by omega) h2 (by omega) (Or.inr (by omega))]; exact h8
    · obtain ⟨k, y, z, m, h1, h2, h3, h4, h5, h6, h7, h8, h9, g1, g2, g3, g4⟩ := q
      unfold RN
      refine ⟨k, y, z, m, h1, h2, h3, h4, h5, h6, ?_, ?_, ?_, RN_same _ _ (Nat.lt_succ_self _) _ _ _ (fun c j a1 a2 a3 a4 => h c j a1 a2 a3 (by omega) (Or.inr (by omega))) g1, ?_, RN_same _ _ (Nat.lt_succ_self _) _ _ _ (fun c j a1 a2 a3 a4 => h c j a1 a2 (by omega) (by omega) (Or.inr (by omega))) g3, ?_⟩
      · rw [h 57 k (by omega) (by omega) (by omega) h6 (Or.inl (by omega))]; exact h7
      · rw [h 58 k (by omega) (by omega) (by omega) h6 (Or.inl (by omega))]; exact h8
      · rw [h 59 k (by omega) (by omega) (by omega) h6 (Or.inl (by omega))]; exact h9
      · rw [h 61 y (by omega) (by omega) h2 (by omega) (Or.inr (by omega))]; exact g2
      · rw [h 61 z (by omega) (by omega) (by omega) (by omega) (Or.inr (by omega))]; exact g4
    · obtain ⟨k, h1, h2, h3, h4, h5, h6, h7⟩ := q
      unfold RN
      refine ⟨k, h1, h2, h3, ?_, ?_, ?_, ?_⟩
      · rw [h 57 k (by omega) (by omega) h2 h3 (Or.inl (by omega))]; exact h4
      · rw [h 58 k (by omega) (by omega) h2 h3 (Or.inl (by omega))]; exact h5
      · rw [h 59 k (by omega) (by omega) h2 h3 (Or.inl (by omega))]; exact h6
      · rw [h 60 k (by omega) (by omega) h2 h3 (Or.inl (by omega))]
        exact RN_same _ _ (Nat.lt_succ_self _) _ _ _ (fun c j a1 a2 a3 a4 => h c j a1 a2 (by omega) a4 (Or.inr (by omega))) h7
    · exact q.elim
theorem rk_c {k : Int} (h : k < 5 ∨ 10 ≤ k) {c : Int} (hc : c < 5) : rk k = c ↔ k = c := by
  unfold rk
  by_cases h1 : k < 10
  · rw [if_pos h1]
  · rw [if_neg h1]
    by_cases h2 : k < 26
    · rw [if_pos h2]; omega
    · rw [if_neg h2]; omega
theorem kd_k (u : Nat → Int) (n i : Nat) : kd u n i < 5 ∨ 10 ≤ kd u n i := word_k u n (ps u n i)
theorem word_q {b : Nat → Int} {n p : Nat} (hp : p ≤ n) (h : (wordAt (uB b n) n p).1 = 4) : ((wordAt (uB b n) n p).2.1 : Int) = p + (wordAt (uB b n) n p).2.2 + 2 := by
  unfold wordAt at h ⊢
  split at h
  · exact absurd h (by dsimp only; omega)
  · rename_i h0
    have hlt := uB_lt h0
    rw [if_neg h0]
    split at h
    · split at h
      · have h : kwK (segU (uB b n) p (en isNm (uB b n) n p - p)) = 4 := h
        rcases kwK_or (segU (uB b n) p (en isNm (uB b n) n p - p)) with h3 | h3 <;> omega
      · exact absurd h (by dsimp only; omega)
    · rename_i h1
      rw [if_neg h1]
      split at h
      · split at h
        · exact absurd h (by dsimp only; omega)
        · exact absurd h (by dsimp only; omega)
      · rename_i h2
        rw [if_neg h2]
        split at h
        · rename_i h3
          rw [if_pos h3]
          split at h
          · rename_i h4
            rw [if_pos h4]
            have h6 := en_b (p := isQt) (u := uB b n) (show p + 1 ≤ n from hlt)
            dsimp only
            omega
          · exact absurd h (by dsimp only; omega)
        · split at h
          · rename_i h4
            have hc := sL1_c _ (isSg_1.mp h4)
            split at h
            · have h : 128 + uB b n p = 4 := h
              omega
            · have h : uB b n p = 4 := h
              omega
          · exact absurd h (by dsimp only; omega)
theorem ES.len {v : Mem} {u : Nat → Int} {n i sg nb nd : Nat} (h : ES v u n i sg nb nd) : w32 ((v 38 11) - (v 38 10)) = ln u n i := by
  have h1 := h.2.1.2.2.2.2.2.1
  have h2 := wordAt_to (u := u) (b := v 40) (n := n) (i := ps u n i) h.1.symm h.2.1.2.2.1
  have h3 := h.2.1.2.1.1
  rw [h.1] at h1
  rw [h1, h.at]
  unfold ln
  exact w32_id (by omega) (by omega)
/-- what must hold of Q behind the row of what is handed over, and its ) -/
def H17 (t : Int) (u : Nat → Int) (n f : Nat) : Prop := ∀ (x : Jvm.Term) (i sg nb : Nat) (r : Except Nat (Jvm.Term × Nat × Nat)), PE (kd u n) f 17 x i sg (nb + 1) = some r → ∀ (d : Nat) (v : Mem) (Q : Int → Mem → Prop) (lo nd k lc li : Nat) (L4 : Int) (full : Jvm.Term → Jvm.Term),
  dN nb sg 3 ≤ d + 1 → nb < 8 → EG v u n i sg (nb + 1) nd → nd ≤ i → lo ≤ k → k < nd → lo ≤ li → (lc = 60 ∧ li = k ∧ L4 < 0 ∨ lc = 62 ∧ L4 = li) → li < nd →
  (∀ (v' : Mem) (hi : Nat) (y : Int) (rest : Jvm.Term), (∀ c j, 57 ≤ c → c ≤ 62 → j < nd → ¬ (c = lc ∧ j = li) → v' c j = v c j) → v' lc li = y → RN v' u n rest nd hi y → RN v' u n (full rest) (k + 1) hi (v' 60 k)) →
  (match r with
    | .error j => ∀ v', FT1 v' u n j → EFr lo v v' → Q (-1) v'
    | .ok q => if kd u n q.2.1 = 41 then (∀ (v' : Mem) (nd' : Nat), EG v' u n (q.2.1 + 1) q.2.2 nb nd' → EFr lo v v' → (∀ c j, 57 ≤ c → c ≤ 62 → j < nd → ¬ (c = lc ∧ j = li) → v' c j = v c j) → RN v' u n (full q.1) (k + 1) nd' (v' 60 k) → nd ≤ nd' → nd' + i ≤ nd + q.2.1 → sg ≤ q.2.2 → Q k v') else ∀ v', FT1 v' u n q.2.1 → EFr lo v v' → Q (-1) v') →
  LL t (d + 1) 205 87 [(2, 38), (3, 0), (3, 0), (0, (k : Int)), (0, L4), (3, 0)] [] v Q
