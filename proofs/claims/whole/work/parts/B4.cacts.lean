/-! The class's machine: acts that make no block. -/
theorem gdA {α : Type} {l m : List α} {k : Nat} {d : α} : (l ++ m).getD (l.length + k) d = m.getD k d := by
  rw [List.getD_eq_getElem?_getD, List.getD_eq_getElem?_getD, List.getElem?_append_right (by omega), show l.length + k - l.length = k from by omega]
theorem rdT {v : Mem} {S T : List Rw} {k : Nat} {jj : Int} (h : VR v (S ++ T)) (hk : k < T.length) (hj : jj = ((T.length - k : Nat) : Int)) : f_139 (w32 ((((S ++ T).length : Nat) : Int) - jj)) v = (T.getD k (-1, 0, 0)).1 ∧ f_140 (w32 ((((S ++ T).length : Nat) : Int) - jj)) v = (T.getD k (-1, 0, 0)).2.1 ∧ f_141 (w32 ((((S ++ T).length : Nat) : Int) - jj)) v = (T.getD k (-1, 0, 0)).2.2 := by
  have hl := h.2.1
  rw [List.length_append] at hl
  have e : w32 ((((S ++ T).length : Nat) : Int) - jj) = ((S.length + k : Nat) : Int) := wNat (by rw [List.length_append, hj]; omega) (by omega)
  rw [e]
  have q := h.at (i := S.length + k) (by rw [List.length_append]; omega)
  rw [gdA] at q
  exact q
theorem gc_int {S : List Rw} {a c : Int} {H : Hp} : gc (S ++ [((-1 : Int), a, c)]) z0 H = gc S z0 H := by
  unfold gc
  congr 1
  funext b
  rw [cnt_one, if_neg (by show ¬ (-1 : Int) = _; omega), Nat.add_zero]
theorem gc_all {S : List Rw} {H : Hp} (h : LV S z0 H) : gc S z0 H = H := by
  unfold gc
  exact List.filter_eq_self.mpr (fun b hb => decide_eq_true (h b hb))
theorem rok.gc {n : Nat} {H : Hp} {S : List Rw} {r : Rw} (h : rok n H r) (hm : r ∈ S) : rok n (gc S z0 H) r := by
  rcases h with h | h | ⟨b, hb, o, c, e, h1, h2⟩
  · exact Or.inl h
  · exact Or.inr (Or.inl h)
  · refine Or.inr (Or.inr ⟨b, gc_in.mpr ⟨hb, ?_⟩, o, c, e, h1, h2⟩)
    have := cnt_in (p := b.1) S hm (by rw [e])
    omega
theorem rok.int {n : Nat} {H : Hp} {a : Int} (h1 : -2147483648 ≤ a) (h2 : a < 2147483648) : rok n H (-1, a, 0) := Or.inl ⟨a, rfl, h1, h2⟩
theorem rok.blk {n : Nat} {H : Hp} {r : Rw} (h : rok n H r) : r.1 = -1 ∨ ∃ b ∈ H, r.1 = ((b.1 : Nat) : Int) := by
  rcases h with ⟨a, e, -⟩ | ⟨s, c, e, -⟩ | ⟨b, hb, o, c, e, -⟩
  · rw [e]; exact Or.inl rfl
  · rw [e]; exact Or.inl rfl
  · rw [e]; exact Or.inr ⟨b, hb, rfl⟩
theorem rok.i32 {n : Nat} {H : Hp} {r : Rw} (h : rok n H r) (hn : n ≤ 3000) (hz : ∀ b ∈ H, b.1 + b.2.1 ≤ 4000) : (-2147483648 ≤ r.2.1 ∧ r.2.1 < 2147483648) ∧ 0 ≤ r.2.2 ∧ r.2.2 < 5000 := by
  rcases h with ⟨a, e, h1, h2⟩ | ⟨s, c, e, h1, h2⟩ | ⟨b, hb, o, c, e, h1, h2⟩
  · rw [e]; exact ⟨⟨h1, h2⟩, by show (0 : Int) ≤ 0; decide, by show (0 : Int) < 5000; decide⟩
  · rw [e]
    refine ⟨⟨?_, ?_⟩, ?_, ?_⟩ <;> dsimp only <;> omega
  · rw [e]
    have := hz b hb
    refine ⟨⟨?_, ?_⟩, ?_, ?_⟩ <;> dsimp only <;> omega
theorem CM.hz {v0 v : Mem} {n z dp pc : Nat} {FB : List (Nat × Nat)} {S : List Rw} {ρ : Rho} (h : CM v0 n z dp pc FB S ρ v) : ∀ b ∈ rH ρ, b.1 + b.2.1 ≤ 4000 := fun b hb => by
  have h1 := h.1.2.1.1.1
  have h2 := hok_in _ _ h.1.2.1.1.2.1 hb
  omega
/-- rows T go, r comes: what VH.int and VH.repl give -/
theorem CM.put {v0 v v' : Mem} {n z dp pc : Nat} {FB : List (Nat × Nat)} {S S' : List Rw} {ρ : Rho} (h : CM v0 n z dp pc FB S ρ v) (hv : VH v' z (gc S' z0 (rH ρ)) (rK ρ) (rM ρ) S' z0) (hf : VF v v') (hr : ∀ r ∈ S', rok n (rH ρ) r) : CM v0 n z dp pc FB S' (wH ρ (gc S' z0 (rH ρ))) v' := ⟨hv, LV.gc, fun r h' => (hr r h').gc h', h.2.2.2.vf hf⟩
theorem CM.add {v0 v v' : Mem} {n z dp pc : Nat} {FB : List (Nat × Nat)} {S T : List Rw} {ρ : Rho} (h : CM v0 n z dp pc FB S ρ v) (hv : VH v' z (rH ρ) (rK ρ) (rM ρ) (S ++ T) z0) (hf : VF v v') (hr : ∀ r ∈ T, rok n (rH ρ) r) : CM v0 n z dp pc FB (S ++ T) ρ v' := ⟨hv, h.2.1.push, fun r h' => by
  rcases List.mem_append.mp h' with h' | h'
  · exact h.2.2.1 r h'
  · exact hr r h', h.2.2.2.vf hf⟩
theorem rok_one {n : Nat} {H : Hp} {S T : List Rw} {r : Rw} (h : ∀ r ∈ S ++ T, rok n H r) (hr : rok n H r) : ∀ q ∈ S ++ [r], rok n H q := fun q hq => by
  rcases List.mem_append.mp hq with hq | hq
  · exact h q (List.mem_append.mpr (Or.inl hq))
  · rw [List.mem_singleton.mp hq]; exact hr
theorem rok_app {n : Nat} {H : Hp} {S T : List Rw} (h : ∀ r ∈ S ++ T, rok n H r) : ∀ q ∈ S, rok n H q := fun q hq => h q (List.mem_append.mpr (Or.inl hq))
/-- an int in the place of the rows T -/
theorem CM.int {t : Int} {d : Nat} {v0 v : Mem} {Q : Int → Mem → Prop} {n z dp pc : Nat} {FB : List (Nat × Nat)} {S T : List Rw} {ρ : Rho} {a m : Int} (h : CM v0 n z dp pc FB (S ++ T) ρ v) (hl : S.length < 1440) (hm : m = ((T.length : Nat) : Int)) (h1 : -2147483648 ≤ a) (h2 : a < 2147483648) (hq : ∀ v', CM v0 n z dp pc FB (S ++ [(-1, a, 0)]) (wH ρ (gc (S ++ [(-1, a, 0)]) z0 (rH ρ))) v' → Q 0 v') : RR t (d + 2) 146 [(2, 32), (0, m), (0, a)] v Q := by
  rw [hm]
  refine VH.int h.1 h.2.1 hl (fun v' a1 a2 a3 => hq v' (h.put ?_ a3 (rok_one h.2.2.1 (rok.int h1 h2))))
  rw [gc_int]
  exact a1
/-- the rows T go -/
theorem CM.pop {t : Int} {d : Nat} {v0 v : Mem} {Q : Int → Mem → Prop} {n z dp pc : Nat} {FB : List (Nat × Nat)} {S T : List Rw} {ρ : Rho} {m : Int} (h : CM v0 n z dp pc FB (S ++ T) ρ v) (hm : m = ((T.length : Nat) : Int)) (hq : ∀ v', CM v0 n z dp pc FB S (wH ρ (gc S z0 (rH ρ))) v' → Q 0 v') : RR t (d + 1) 144 [(2, 32), (0, m)] v Q := by
  rw [hm]
  exact VH.pop h.1 h.2.1 (fun v' a1 a2 a3 => hq v' (h.put a1 a3 (rok_app h.2.2.1)))
theorem CM.push {t : Int} {d : Nat} {v0 v : Mem} {Q : Int → Mem → Prop} {n z dp pc : Nat} {FB : List (Nat × Nat)} {S : List Rw} {ρ : Rho} {a b c : Int} (h : CM v0 n z dp pc FB S ρ v) (hl : S.length < 1440) (hr : rok n (rH ρ) (a, b, c)) (hq : ∀ v', CM v0 n z dp pc FB (S ++ [(a, b, c)]) ρ v' → Q 0 v') : RR t (d + 1) 142 [(2, 32), (0, a), (0, b), (0, c)] v Q := VH.push (r := (a, b, c)) h.1 hl hr.blk (fun v' a1 a2 => hq v' (h.add a1 a2 (fun r hr' => by rw [List.mem_singleton.mp hr']; exact hr)))
/-- r in the place of the rows T -/
theorem CM.repl {t : Int} {d : Nat} {v0 v : Mem} {Q : Int → Mem → Prop} {n z dp pc : Nat} {FB : List (Nat × Nat)} {S T : List Rw} {ρ : Rho} {a b c m : Int} (h : CM v0 n z dp pc FB (S ++ T) ρ v) (hl : S.length < 1440) (hm : m = ((T.length : Nat) : Int)) (hr : rok n (rH ρ) (a, b, c)) (hq : ∀ v', CM v0 n z dp pc FB (S ++ [(a, b, c)]) (wH ρ (gc (S ++ [(a, b, c)]) z0 (rH ρ))) v' → Q 0 v') : RR t (d + 2) 145 [(2, 32), (0, m), (0, a), (0, b), (0, c)] v Q := by
  rw [hm]
  refine VH.repl (r := (a, b, c)) h.1 hr.blk (fun q hq' => ?_) hl (fun v' a1 a2 a3 => hq v' (h.put a1 a3 (rok_one h.2.2.1 hr)))
  have := h.2.1 q hq'
  show 0 < cnt q.1 (S ++ T) + (z0 q.1 + _)
  omega
theorem CRg.base {v0 v : Mem} {dp pc N bs bk : Nat} {FB : List (Nat × Nat)} {hb : Nat → Int} {tl : List Int} (h : CRg v0 dp pc (FB ++ [(bs, bk)]) hb tl N v) : f_57 v = ((bs : Nat) : Int) ∧ v 36 FB.length = ((bk : Nat) : Int) := by
  obtain ⟨⟨a1, -⟩, ⟨-, -, h2⟩, h3, -⟩ := h
  have q := h3 FB.length (by rw [List.length_append]; exact Nat.lt_succ_self _)
  rw [gd2] at q
  rw [List.length_append] at a1 h2
  have e1 : v 31 7 = ((FB.length + 1 : Nat) : Int) := a1
  have h2 : FB.length + 1 ≤ 12 := h2
  refine ⟨?_, q.2⟩
  unfold f_57
  rw [e1, wNat (k := FB.length) (by omega) (by omega), if_neg (by omega), if_pos (by omega), Int.toNat_natCast]
  exact q.1
theorem m58_1 {v0 v : Mem} {n z dp pc : Nat} {FB : List (Nat × Nat)} {S : List Rw} {ρ : Rho} {m : Nat} (h : CM v0 n z dp pc FB S ρ v) (hm : rN ρ + m ≤ 20000) : CM v0 n z dp pc FB S (wN ρ (rN ρ + m)) (m_58 ((m : Nat) : Int) v) ∧ m_58 ((m : Nat) : Int) v 31 13 = -1 := by
  obtain ⟨q1, q2, q3, ⟨⟨a1, a2, a3, a4, a5, a6, a7⟩, ⟨b1, b2, b3⟩, h3, h4, h5⟩⟩ := h
  unfold m_58
  rw [a4, w32_id (a := 20000 - ((rN ρ : Nat) : Int)) (by omega) (by omega), if_neg (by omega), wNat (k := rN ρ + m) (by omega) (by omega)]
  refine ⟨⟨q1.u31, q2, q3, ⟨?_, ?_, ?_, up_k, ?_, ?_, ?_⟩, ⟨hm, b2, b3⟩, fun i hi => by rw [up_ne (by decide), up_ne (by decide)]; exact h3 i hi, h4.same (up_ne (by decide)), h5.u31⟩, ?_⟩
  · rw [up_nk (by decide)]; exact a1
  · rw [up_nk (by decide)]; exact a2
  · rw [up_nk (by decide)]; exact a3
  · rw [up_nk (by decide)]; exact a5
  · rw [up_nk (by decide)]; exact a6
  · rw [up_nk (by decide)]; exact a7
  · rw [up_nk (by decide)]; exact a7
theorem CM.ends {v0 v : Mem} {n z dp pc : Nat} {FB : List (Nat × Nat)} {S : List Rw} {ρ : Rho} {k : Int} (h : CM v0 n z dp pc FB S ρ v) : CE v0 z k 0 ρ (up v 31 13 k) := by
  obtain ⟨q1, q2, q3, ⟨⟨a1, a2, a3, a4, a5, a6, a7⟩, ⟨b1, b2, b3⟩, h3, h4, h5⟩⟩ := h
  refine ⟨⟨S, q1.u31, q2⟩, ⟨?_, ?_, ?_, up_k⟩, b2, h4.same (up_ne (by decide)), h5.u31⟩
  · rw [up_nk (by decide)]; exact a4
  · rw [up_nk (by decide)]; exact a5
  · rw [up_nk (by decide)]; exact a6
theorem m58_2 {v0 v : Mem} {n z dp pc : Nat} {FB : List (Nat × Nat)} {S : List Rw} {ρ : Rho} {m : Nat} (h : CM v0 n z dp pc FB S ρ v) (hm : 20000 < rN ρ + m) : CE v0 z 4 0 (wN ρ 20000) (m_58 ((m : Nat) : Int) v) := by
  obtain ⟨q1, q2, q3, ⟨⟨a1, a2, a3, a4, a5, a6, a7⟩, ⟨b1, b2, b3⟩, h3, h4, h5⟩⟩ := h
  unfold m_58
  rw [a4, w32_id (a := 20000 - ((rN ρ : Nat) : Int)) (by omega) (by omega), if_pos (by omega)]
  refine ⟨⟨S, q1.u31.u31, q2⟩, ⟨?_, ?_, ?_, up_k⟩, b2, h4.same (by rw [up_ne (by decide), up_ne (by decide)]), h5.u31.u31⟩
  · rw [up_nk (by decide), up_k]; rfl
  · rw [up_nk (by decide), up_nk (by decide)]; exact a5
  · rw [up_nk (by decide), up_nk (by decide)]; exact a6
