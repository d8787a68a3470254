/-! The class's machine: the acts one by one. -/
def tr (a : Int) : Int := if a = 0 then 0 else 1
theorem tr_b (a : Int) : -2147483648 ≤ tr a ∧ tr a < 2147483648 := by unfold tr; split <;> decide
theorem lp_act {t : Int} {d : Nat} {v : Mem} {Q : Int → Mem → Prop} {i : Nat} (hi : i < 50000000) (hc : v 31 13 = -1) (h : RR t d 56 [(2, 31)] v (fun _ v' => LL t (d + 1) 52 68 [(2, 31), (3, 0), (3, 0), (0, ((i + 1 : Nat) : Int))] [] v' Q)) : LL t (d + 1) 52 68 [(2, 31), (3, 0), (3, 0), (0, (i : Int))] [] v Q := by
  refine s_52_68 ⟨fun _ => ⟨fun _ => ?_, fun c => absurd hc c⟩, fun c => absurd (by omega) c⟩
  rw [wNat (k := i + 1) (a := (i : Int) + 1) (by omega) (by omega)]
  exact h
theorem lp_end {t : Int} {d : Nat} {v : Mem} {Q : Int → Mem → Prop} {i k : Int} (hc : v 31 13 = k) (hk : k ≠ -1) (h : Q k v) : LL t (d + 1) 52 68 [(2, 31), (3, 0), (3, 0), (0, i)] [] v Q := by
  refine s_52_68 ⟨fun _ => ⟨fun c => absurd (hc.symm.trans c) hk, fun _ => ?_⟩, fun _ => ?_⟩
  · rw [hc]; exact h
  · rw [hc]; exact h
theorem at_step {t : Int} {d : Nat} {v0 v : Mem} {Q : Int → Mem → Prop} {n z dp pc : Nat} {FB : List (Nat × Nat)} {S : List Rw} {ρ : Rho} {f s : Int} (hc : CM v0 n z dp pc FB S ρ v) (ha : actAt v0 pc 0 f s) (h1 : rN ρ < 20000 → ∀ v', CM v0 n z dp (pc + 1) FB S (wN ρ (rN ρ + 1)) v' → Q 0 v') (h2 : rN ρ = 20000 → ∀ v', CE v0 z 4 0 ρ v' → Q 0 v') : RR t (d + 2) 56 [(2, 31)] v Q := ac_0 hc ha (fun v1 g => by
  by_cases c : rN ρ < 20000
  · exact h1 c _ (m58_1 (m := 1) g (by omega)).1
  · have hN := hc.2.2.2.2.1.1
    have e : rN ρ = 20000 := by omega
    refine h2 e _ ?_
    have q := m58_2 (m := 1) g (by omega)
    rw [← e] at q
    exact q)
theorem at_look {t : Int} {d : Nat} {v0 v : Mem} {Q : Int → Mem → Prop} {n z dp pc : Nat} {FB : List (Nat × Nat)} {S : List Rw} {ρ : Rho} {f s : Int} (hc : CM v0 n z dp pc FB S ρ v) (ha : actAt v0 pc 1 f s) (h : ∀ v', CM v0 n z dp (pc + 1) FB S ρ v' → Q 0 v') : RR t (d + 3) 56 [(2, 31)] v Q := ac_1 hc ha (fun v1 g => VH.look g.1 g.2.1 (fun v' a1 a2 => h v' ⟨a1, g.2.1, g.2.2.1, g.2.2.2.vf a2⟩))
theorem at_jump {t : Int} {d : Nat} {v0 v : Mem} {Q : Int → Mem → Prop} {n z dp pc : Nat} {FB : List (Nat × Nat)} {S : List Rw} {ρ : Rho} {g : Nat} {s : Int} (hc : CM v0 n z dp pc FB S ρ v) (ha : actAt v0 pc 2 (g : Int) s) (h : ∀ v', CM v0 n z dp g FB S ρ v' → Q 0 v') : RR t (d + 2) 56 [(2, 31)] v Q := ac_2 hc ha (fun v1 g => h _ g.at)
theorem at_jz {t : Int} {d : Nat} {v0 v : Mem} {Q : Int → Mem → Prop} {n z dp pc : Nat} {FB : List (Nat × Nat)} {S : List Rw} {ρ : Rho} {r : Rw} {g : Nat} {s : Int} (hc : CM v0 n z dp pc FB (S ++ [r]) ρ v) (ha : actAt v0 pc 3 (g : Int) s) (h : ∀ v', CM v0 n z dp (if r.2.1 = 0 then g else pc + 1) FB S (wH ρ (gc S z0 (rH ρ))) v' → Q 0 v') : RR t (d + 3) 56 [(2, 31)] v Q := ac_3 hc ha (fun v1 k => by
  refine s_59 ?_
  have e := (rdT (T := [r]) (k := 0) (jj := 1) k.1.1 (Nat.lt_succ_self _) rfl).2.1
  have e : f_140 (w32 ((((S ++ [r]).length : Nat) : Int) - 1)) v1 = r.2.1 := e
  rw [k.1.1.1, e]
  refine k.pop rfl (fun v' q => ⟨fun c => ?_, fun c => ?_⟩)
  · rw [if_pos c] at h; exact h _ q.at
  · rw [if_neg c] at h; exact h _ q)
theorem at_settle {t : Int} {d : Nat} {v0 v : Mem} {Q : Int → Mem → Prop} {n z dp pc : Nat} {FB : List (Nat × Nat)} {S : List Rw} {ρ : Rho} {r : Rw} {g : Nat} {s : Int} (hc : CM v0 n z dp pc FB (S ++ [r]) ρ v) (hl : S.length < 1440) (ha : actAt v0 pc 4 (g : Int) s) (h1 : tr r.2.1 = s → ∀ v', CM v0 n z dp g FB (S ++ [(-1, tr r.2.1, 0)]) (wH ρ (gc (S ++ [(-1, tr r.2.1, 0)]) z0 (rH ρ))) v' → Q 0 v') (h2 : ¬ tr r.2.1 = s → ∀ v', CM v0 n z dp (pc + 1) FB S (wH ρ (gc S z0 (rH ρ))) v' → Q 0 v') : RR t (d + 3) 56 [(2, 31)] v Q := ac_4 hc ha (fun v1 k => by
  refine s_60 ?_
  have e : f_140 (w32 ((((S ++ [r]).length : Nat) : Int) - 1)) v1 = r.2.1 := (rdT (T := [r]) (k := 0) (jj := 1) k.1.1 (Nat.lt_succ_self _) rfl).2.1
  rw [k.1.1.1, e]
  unfold tr at h1 h2
  have fin : ∀ (v' : Mem) (x : Int), -2147483648 ≤ x → x < 2147483648 → CM v0 n z dp (pc + 1) FB S (wH ρ (gc S z0 (rH ρ))) v' → (∀ v', CM v0 n z dp g FB (S ++ [(-1, x, 0)]) (wH ρ (gc (S ++ [(-1, x, 0)]) z0 (rH ρ))) v' → Q 0 v') → RR t (d + 1) 142 [(2, 32), (0, -1), (0, x), (0, 0)] v' (fun _ v4 => Q 0 (up v4 31 9 (g : Int))) := fun v' x x1 x2 q hh => q.push hl (rok.int x1 x2) (fun v4 q4 => hh _ (by rw [gc_int]; exact q4.at))
  refine ⟨fun c => k.pop rfl (fun v' q => ⟨fun c2 => ?_, fun c2 => ?_⟩), fun c => k.pop rfl (fun v' q => ⟨fun c2 => ?_, fun c2 => ?_⟩)⟩
  · rw [if_pos c] at h1; exact fin v' 0 (by decide) (by decide) q (h1 c2)
  · rw [if_pos c] at h2; exact h2 c2 _ q
  · rw [if_neg c] at h1; exact fin v' 1 (by decide) (by decide) q (h1 c2)
  · rw [if_neg c] at h2; exact h2 c2 _ q)
theorem at_num {t : Int} {d : Nat} {v0 v : Mem} {Q : Int → Mem → Prop} {n z dp pc : Nat} {FB : List (Nat × Nat)} {S : List Rw} {ρ : Rho} {f s : Int} (hc : CM v0 n z dp pc FB S ρ v) (hl : S.length < 1440) (ha : actAt v0 pc 7 f s) (hf : -2147483648 ≤ f ∧ f < 2147483648) (h : ∀ v', CM v0 n z dp (pc + 1) FB (S ++ [(-1, f, 0)]) ρ v' → Q 0 v') : RR t (d + 2) 56 [(2, 31)] v Q := ac_7 hc ha (fun v1 k => k.push hl (rok.int hf.1 hf.2) (fun v' q => h _ q))
theorem at_quo {t : Int} {d : Nat} {v0 v : Mem} {Q : Int → Mem → Prop} {n z dp pc : Nat} {FB : List (Nat × Nat)} {S : List Rw} {ρ : Rho} {f s : Int} (hc : CM v0 n z dp pc FB S ρ v) (hl : S.length < 1440) (ha : actAt v0 pc 8 f s) (hf : rok n (rH ρ) (-1, f, s)) (h : ∀ v', CM v0 n z dp (pc + 1) FB (S ++ [(-1, f, s)]) ρ v' → Q 0 v') : RR t (d + 2) 56 [(2, 31)] v Q := ac_8 hc ha (fun v1 k => k.push hl hf (fun v' q => h _ q))
theorem at_loc {t : Int} {d : Nat} {v0 v : Mem} {Q : Int → Mem → Prop} {n z dp pc bs bk g : Nat} {FB : List (Nat × Nat)} {S : List Rw} {ρ : Rho} {s : Int} (hc : CM v0 n z dp pc (FB ++ [(bs, bk)]) S ρ v) (hl : S.length < 1440) (ha : actAt v0 pc 9 (g : Int) s) (hb : bs + g < S.length) (h : ∀ v', CM v0 n z dp (pc + 1) (FB ++ [(bs, bk)]) (S ++ [S.getD (bs + g) (-1, 0, 0)]) ρ v' → Q 0 v') : RR t (d + 3) 56 [(2, 31)] v Q := ac_9 hc ha (fun v1 k => by
  rw [k.2.2.2.base.1, wNat (k := bs + g) (by omega) (by omega)]
  exact VH.copy k.1 hb hl (fun v' a1 a2 => h v' (k.add a1 a2 (fun r hr => by rw [List.mem_singleton.mp hr]; exact k.2.2.1 _ (getD_mem S _ hb)))))
theorem at_give {t : Int} {d : Nat} {v0 v : Mem} {Q : Int → Mem → Prop} {n z dp pc bs bk g : Nat} {FB : List (Nat × Nat)} {S : List Rw} {r : Rw} {ρ : Rho} {s : Int} (hc : CM v0 n z dp pc (FB ++ [(bs, bk)]) (S ++ [r]) ρ v) (ha : actAt v0 pc 10 (g : Int) s) (hb : bs + g < S.length) (h : ∀ v', CM v0 n z dp (pc + 1) (FB ++ [(bs, bk)]) (S.set (bs + g) r) (wH ρ (gc (S.set (bs + g) r) z0 (rH ρ))) v' → Q 0 v') : RR t (d + 3) 56 [(2, 31)] v Q := ac_10 hc ha (fun v1 k => by
  have hl := k.1.1.2.1
  rw [List.length_append] at hl
  rw [k.2.2.2.base.1, wNat (k := bs + g) (by omega) (by omega)]
  refine VH.give k.1 k.2.1 hb (fun v' a1 a2 a3 => h v' (k.put a1 a3 (fun q hq => ?_)))
  rcases List.mem_or_eq_of_mem_set hq with hq | hq
  · exact k.2.2.1 q (List.mem_append.mpr (Or.inl hq))
  · exact k.2.2.1 q (List.mem_append.mpr (Or.inr (List.mem_singleton.mpr hq))))
theorem clrR_mem {q : Rw} : ∀ (m i : Nat) (S : List Rw), q ∈ clrR S i m → q ∈ S ∨ q = (-1, 0, 0) := by
  intro m
  induction m with
  | zero => intro i S h; exact Or.inl h
  | succ m ih =>
    intro i S h
    rcases ih _ _ h with h | h
    · exact List.mem_or_eq_of_mem_set h
    · exact Or.inr h
theorem at_clear {t : Int} {d : Nat} {v0 v : Mem} {Q : Int → Mem → Prop} {n z dp pc bs bk g m : Nat} {FB : List (Nat × Nat)} {S : List Rw} {ρ : Rho} (hc : CM v0 n z dp pc (FB ++ [(bs, bk)]) S ρ v) (ha : actAt v0 pc 11 (g : Int) (m : Int)) (hb : bs + g + m ≤ S.length) (h : ∀ v', CM v0 n z dp (pc + 1) (FB ++ [(bs, bk)]) (clrR S (bs + g) m) (wH ρ (gc (clrR S (bs + g) m) z0 (rH ρ))) v' → Q 0 v') : RR t (d + 3) 56 [(2, 31)] v Q := ac_11 hc ha (fun v1 k => by
  have hl := k.1.1.2.1
  rw [k.2.2.2.base.1, wNat (k := bs + g) (by omega) (by omega)]
  refine w_149 ?_
  have e : ((m : Nat) : Int) = ((bs + g + m - (bs + g) : Nat) : Int) := by omega
  rw [e]
  refine fgt_lp (a := bs + g) (N := bs + g + m) (by omega) (by omega) m (bs + g) S (rH ρ) v1 rfl hb k.1 k.2.1 (fun v' a1 a2 a3 => h v' (k.put a1 a3 (fun q hq => ?_)))
  rcases clrR_mem _ _ _ hq with hq | hq
  · exact k.2.2.1 q hq
  · rw [hq]; exact rok.int (by decide) (by decide))
theorem at_drop {t : Int} {d : Nat} {v0 v : Mem} {Q : Int → Mem → Prop} {n z dp pc : Nat} {FB : List (Nat × Nat)} {S : List Rw} {r : Rw} {ρ : Rho} {f s : Int} (hc : CM v0 n z dp pc FB (S ++ [r]) ρ v) (ha : actAt v0 pc 12 f s) (h : ∀ v', CM v0 n z dp (pc + 1) FB S (wH ρ (gc S z0 (rH ρ))) v' → Q 0 v') : RR t (d + 2) 56 [(2, 31)] v Q := ac_12 hc ha (fun v1 k => k.pop rfl (fun v' q => h _ q))
