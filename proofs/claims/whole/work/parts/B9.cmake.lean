/-! The class's machine: acts that make a block. -/
def setB (f : Nat → Int) (a m : Nat) (g : Nat → Int) : Nat → Int := fun p => if a ≤ p ∧ p < a + m then g (p - a) else f p
/-- a new block at a, of the m bytes g; the rows S stay -/
def mkR (S : List Rw) (m a : Nat) (g : Nat → Int) (ρ : Rho) : Rho := (gc (S ++ [((a : Int), ((3000 + a : Nat) : Int), (m : Int))]) z0 (hin (m + 1) (rK ρ) 0 (rH ρ)), setB (rB ρ) a m g, rT ρ, rN ρ, rK ρ + 1, max (rM ρ) (hsum (rH ρ) + (m + 1)))
theorem CM.make {t : Int} {d : Nat} {v0 v : Mem} {Q : Int → Mem → Prop} {n z dp pc m : Nat} {FB : List (Nat × Nat)} {S : List Rw} {ρ : Rho} (h : CM v0 n z dp pc FB S ρ v) (hk : rK ρ < 2000000000) (hm : 1 ≤ m) (hm2 : m < 8000) (hq0 : fit z (m + 1) 0 (rH ρ) = none → Q (-1) v)
    (hq1 : ∀ (a : Nat) (v' : Mem), fit z (m + 1) 0 (rH ρ) = some a → a + (m + 1) ≤ z → VH v' z (hin (m + 1) (rK ρ) 0 (rH ρ)) (rK ρ + 1) (max (rM ρ) (hsum (rH ρ) + (m + 1))) S z0 → (∀ c, ¬ (15 ≤ c ∧ c ≤ 20) → v' c = v c) → Q (a : Int) v') : RR t (d + 2) 33 [(2, 15), (0, (m : Int))] v Q := by
  refine h.1.2.1.make hk hm hm2 hq0 (fun a e1 e2 e3 v' e4 e5 => hq1 a v' e1 e2 ⟨h.1.1.same (by rw [e5 32 (by omega)]) (fun c hc => e5 c (by omega)), e4, fun r hr => ?_, h.1.2.2.2⟩ e5)
  rcases h.1.2.2.1 r hr with e | ⟨b, hb, e⟩
  · exact Or.inl e
  · exact Or.inr ⟨b, (mem_hin (k := rK ρ) (rH ρ) 0 e1).2 b hb, e⟩
theorem rok.hin {n z m a k : Nat} {H : Hp} {r : Rw} (h : rok n H r) (hf : fit z (m + 1) 0 H = some a) : rok n (hin (m + 1) k 0 H) r := by
  rcases h with h | h | ⟨b, hb, o, c, e, h1, h2⟩
  · exact Or.inl h
  · exact Or.inr (Or.inl h)
  · exact Or.inr (Or.inr ⟨b, (mem_hin (k := k) H 0 hf).2 b hb, o, c, e, h1, h2⟩)
theorem mem_hin_inv {need k : Nat} {b : Nat × Nat × Nat} {z a : Nat} : ∀ (H : Hp) (lo : Nat), fit z need lo H = some a → b ∈ hin need k lo H → b = (a, need, k) ∨ b ∈ H := by
  intro H
  induction H with
  | nil =>
    intro lo hf h
    have hf : (if lo + need ≤ z then some lo else none) = some a := hf
    split at hf
    · cases hf
      exact Or.inl (List.mem_singleton.mp h)
    · cases hf
  | cons c r ih =>
    intro lo hf h
    have hf : (if lo + need ≤ c.1 then some lo else fit z need (c.1 + c.2.1) r) = some a := hf
    have h : b ∈ (if lo + need ≤ c.1 then (lo, need, k) :: c :: r else c :: hin need k (c.1 + c.2.1) r) := h
    split at hf
    · rename_i hc
      cases hf
      rw [if_pos hc] at h
      rcases List.mem_cons.mp h with e | e
      · exact Or.inl e
      · exact Or.inr e
    · rename_i hc
      rw [if_neg hc] at h
      rcases List.mem_cons.mp h with e | e
      · exact Or.inr (List.mem_cons.mpr (Or.inl e))
      · rcases ih _ hf e with g | g
        · exact Or.inl g
        · exact Or.inr (List.mem_cons_of_mem _ g)
/-- the new block takes the place of the rows T -/
theorem CM.fin {t : Int} {d : Nat} {v0 v v3 : Mem} {Q : Int → Mem → Prop} {n z dp pc m a : Nat} {g : Nat → Int} {FB : List (Nat × Nat)} {S T : List Rw} {ρ : Rho} {j : Int} (h : CM v0 n z dp pc FB (S ++ T) ρ v) (hl : S.length < 1440) (hm : 1 ≤ m) (hj : j = ((T.length : Nat) : Int)) (hf : fit z (m + 1) 0 (rH ρ) = some a)
    (hv : VH v3 z (hin (m + 1) (rK ρ) 0 (rH ρ)) (rK ρ + 1) (max (rM ρ) (hsum (rH ρ) + (m + 1))) (S ++ T) z0) (hc : ∀ c, c ≠ 14 → ¬ (15 ≤ c ∧ c ≤ 20) → v3 c = v c) (hb1 : ∀ j, j < 3000 → v3 14 j = v 14 j) (hb2 : ∀ p, p < 4000 → v3 14 (3000 + p) = setB (rB ρ) a m g p) (hb3 : ∀ j, 7011 ≤ j → v3 14 j = v 14 j)
    (hq : ∀ v', CM v0 n z dp pc FB (S ++ [((a : Int), ((3000 + a : Nat) : Int), (m : Int))]) (mkR S m a g ρ) v' → Q 0 v') : RR t (d + 2) 145 [(2, 32), (0, j), (0, (a : Int)), (0, ((3000 + a : Nat) : Int)), (0, (m : Int))] v3 Q := by
  have hin2 := mem_hin (k := rK ρ) (rH ρ) 0 hf
  have hnew : rok n (hin (m + 1) (rK ρ) 0 (rH ρ)) ((a : Int), ((3000 + a : Nat) : Int), (m : Int)) := Or.inr (Or.inr ⟨_, hin2.1, 0, m, rfl, hm, by show 0 + m + 1 ≤ m + 1; omega⟩)
  have hg : CRg v0 dp pc FB (setB (rB ρ) a m g) (rT ρ) (rN ρ) v3 := by
    obtain ⟨h1, h2, h3, ⟨b1, b2, b3⟩, h5⟩ := h.2.2.2
    refine ⟨by rw [hc 31 (by decide) (by omega)]; exact h1, h2, fun i hi => by rw [hc 36 (by decide) (by omega), hc 37 (by decide) (by omega)]; exact h3 i hi, ⟨fun x hx => by rw [hb1 x hx]; exact b1 x hx, hb2, fun i hi => by rw [hb3 _ (by omega)]; exact b3 i hi⟩, fun c c1 c2 c3 => by rw [hc c c1 (by omega)]; exact h5 c c1 c2 c3⟩
  rw [hj]
  refine VH.repl (r := ((a : Int), ((3000 + a : Nat) : Int), (m : Int))) hv hnew.blk (fun b hb => ?_) hl (fun v' a1 a2 a3 => hq v' ⟨a1, a2, fun r hr => ?_, hg.vf a3⟩)
  · rcases mem_hin_inv (rH ρ) 0 hf hb with e | e
    · rw [e]
      show 0 < cnt a (S ++ T) + (0 + (if (a : Int) = (a : Int) then 1 else 0))
      rw [if_pos rfl]
      omega
    · have := h.2.1 b e
      show 0 < cnt b.1 (S ++ T) + (z0 b.1 + _)
      omega
  · refine rok.gc ?_ hr
    rcases List.mem_append.mp hr with e | e
    · exact (h.2.2.1 r (List.mem_append.mpr (Or.inl e))).hin hf
    · rw [List.mem_singleton.mp e]
      exact hnew
theorem cpV_c {v : Mem} {a b m c : Nat} (h : c ≠ 14) : cpV v 14 a 14 b m c = v c := by
  funext k
  unfold cpV
  rw [if_neg h]
theorem cpV_i {v : Mem} {a b m k : Nat} (h : b ≤ k ∧ k < b + m) : cpV v 14 a 14 b m 14 k = v 14 (a + (k - b)) := by
  unfold cpV
  rw [if_pos rfl, if_pos h]
theorem cpV_o {v : Mem} {a b m k : Nat} (h : ¬ (b ≤ k ∧ k < b + m)) : cpV v 14 a 14 b m 14 k = v 14 k := by
  unfold cpV
  rw [if_pos rfl, if_neg h]
theorem VH.cp {v : Mem} {z : Nat} {H : Hp} {k mo : Nat} {S : List Rw} {ex : Nat → Nat} {a b m : Nat} (h : VH v z H k mo S ex) : VH (cpV v 14 a 14 b m) z H k mo S ex := h.cells (fun c c1 c2 => cpV_c (by omega)) (fun c c1 c2 => cpV_c (by omega))
theorem mk1_rr {t : Int} {d : Nat} {v0 v : Mem} {Q : Int → Mem → Prop} {n z dp pc m fr : Nat} {g : Nat → Int} {FB : List (Nat × Nat)} {S : List Rw} {r : Rw} {ρ : Rho} (h : CM v0 n z dp pc FB (S ++ [r]) ρ v) (hk : rK ρ < 2000000000) (hl : S.length < 1440) (hm : 1 ≤ m) (hfr : 7000 ≤ fr ∧ fr + m ≤ 7011) (hg : ∀ j, j < m → v 14 (fr + j) = g j) (h1 : fit z (m + 1) 0 (rH ρ) = none → ∀ v', CE v0 z 2 0 ρ v' → Q 0 v') (h2 : ∀ a, fit z (m + 1) 0 (rH ρ) = some a → ∀ v', CM v0 n z dp pc FB (S ++ [((a : Int), ((3000 + a : Nat) : Int), (m : Int))]) (mkR S m a g ρ) v' → Q 0 v') : RR t (d + 3) 78 [(2, 31), (0, (fr : Int)), (0, (m : Int))] v Q := by
  refine s_78 (d := d + 2) ?_
  refine h.make hk hm (by omega) (fun e => ⟨fun _ => h1 e _ h.ends, fun c => absurd rfl c⟩) (fun a v5 e1 e2 e3 e4 => ⟨fun c => absurd c (by omega), fun _ => ?_⟩)
  have hz := h.1.2.1.1.1
  rw [wNat (k := 3000 + a) (a := 3000 + (a : Int)) (by omega) (by omega)]
  refine copy_rr (by omega) (by omega) ?_
  refine h.fin (g := g) hl hm rfl e1 e3.cp (fun c c1 c2 => by rw [cpV_c c1]; exact e4 c c2) (fun j hj => by rw [cpV_o (by omega), e4 14 (by omega)]) (fun p hp => ?_) (fun j hj => by rw [cpV_o (by omega), e4 14 (by omega)]) (fun v' q => h2 a e1 v' q)
  unfold setB
  by_cases c : a ≤ p ∧ p < a + m
  · rw [if_pos c, cpV_i (by omega), e4 14 (by omega), show 3000 + p - (3000 + a) = p - a from by omega]
    exact hg _ (by omega)
  · rw [if_neg c, cpV_o (by omega), e4 14 (by omega)]
    exact h.2.2.2.2.2.2.1.2.1 p hp
theorem CM.dig {v0 v v' : Mem} {n z dp pc : Nat} {FB : List (Nat × Nat)} {S : List Rw} {ρ : Rho} (h : CM v0 n z dp pc FB S ρ v) (hf : WDf v v') : CM v0 n z dp pc FB S ρ v' := by
  obtain ⟨q1, q2, q3, h1, h2, h3, ⟨b1, b2, b3⟩, h5⟩ := h
  refine ⟨q1.cells (fun c c1 c2 => hf.1 c (by omega)) (fun c c1 c2 => hf.1 c (by omega)), q2, q3, by rw [hf.1 31 (by decide)]; exact h1, h2, fun i hi => by rw [hf.1 36 (by decide), hf.1 37 (by decide)]; exact h3 i hi, ⟨fun a ha => by rw [hf.2 a (by omega)]; exact b1 a ha, fun p hp => by rw [hf.2 _ (by omega)]; exact b2 p hp, fun i hi => by rw [hf.2 _ (by omega)]; exact b3 i hi⟩, fun c c1 c2 c3 => by rw [hf.1 c c1]; exact h5 c c1 c2 c3⟩
theorem at_digits {t : Int} {d : Nat} {v0 v : Mem} {Q : Int → Mem → Prop} {n z dp pc : Nat} {FB : List (Nat × Nat)} {S : List Rw} {r : Rw} {ρ : Rho} {f s : Int} (hn : n ≤ 3000) (hc : CM v0 n z dp pc FB (S ++ [r]) ρ v) (hk : rK ρ < 2000000000) (hl : S.length < 1440) (ha : actAt v0 pc 24 f s) (h1 : fit z (dcl r.2.1 + 1) 0 (rH ρ) = none → ∀ v', CE v0 z 2 0 ρ v' → Q 0 v') (h2 : ∀ a, fit z (dcl r.2.1 + 1) 0 (rH ρ) = some a → ∀ v', CM v0 n z dp (pc + 1) FB (S ++ [((a : Int), ((3000 + a : Nat) : Int), (dcl r.2.1 : Int))]) (mkR S (dcl r.2.1) a (dch r.2.1) ρ) v' → Q 0 v') : RR t (d + 6) 56 [(2, 31)] v Q := ac_24 hc ha (fun v1 k => by
  have e : f_140 (w32 ((((S ++ [r]).length : Nat) : Int) - 1)) v1 = r.2.1 := (rdT (T := [r]) (k := 0) (jj := 1) k.1.1 (Nat.lt_succ_self _) rfl).2.1
  have b := ((k.2.2.1 r (List.mem_append.mpr (Or.inr List.mem_cons_self))).i32 hn k.hz).1
  have bd := dcl_b b.1 b.2
  refine s_76 (d := d + 3) ?_
  rw [k.1.1.1, e]
  refine wd_rr b.1 b.2 (fun v2 w1 w2 => ?_)
  rw [wNat (k := dcl r.2.1) (by omega) (by omega)]
  exact mk1_rr (d := d + 1) (g := dch r.2.1) (k.dig w1) hk hl bd.1 (by omega) w2 (fun e v' q => h1 e v' q) (fun a e v' q => h2 a e v' q))
theorem at_sign {t : Int} {d : Nat} {v0 v : Mem} {Q : Int → Mem → Prop} {n z dp pc : Nat} {FB : List (Nat × Nat)} {S : List Rw} {r : Rw} {ρ : Rho} {f s : Int} (hc : CM v0 n z dp pc FB (S ++ [r]) ρ v) (hk : rK ρ < 2000000000) (hl : S.length < 1440) (ha : actAt v0 pc 25 f s) (h1 : fit z (1 + 1) 0 (rH ρ) = none → ∀ v', CE v0 z 2 0 ρ v' → Q 0 v') (h2 : ∀ a, fit z (1 + 1) 0 (rH ρ) = some a → ∀ v', CM v0 n z dp (pc + 1) FB (S ++ [((a : Int), ((3000 + a : Nat) : Int), ((1 : Nat) : Int))]) (mkR S 1 a (fun _ => w8 (w8 r.2.1)) ρ) v' → Q 0 v') : RR t (d + 6) 56 [(2, 31)] v Q := ac_25 hc ha (fun v1 k => by
  have e : f_140 (w32 ((((S ++ [r]).length : Nat) : Int) - 1)) v1 = r.2.1 := (rdT (T := [r]) (k := 0) (jj := 1) k.1.1 (Nat.lt_succ_self _) rfl).2.1
  refine s_77 (d := d + 3) ?_
  have m3 : m_3 7000 r.2.1 v1 = up v1 14 7000 (w8 (w8 r.2.1)) := m3_p (a := 7000) (by omega)
  rw [k.1.1.1, e, m3]
  have w1 : WDf v1 (up v1 14 7000 (w8 (w8 r.2.1))) := WDf.put ⟨fun _ _ => rfl, fun _ _ => rfl⟩ (by omega) (by omega)
  exact mk1_rr (d := d + 1) (m := 1) (fr := 7000) (g := fun _ => w8 (w8 r.2.1)) (k.dig w1) hk hl (by omega) (by omega) (fun j hj => by
    have : j = 0 := by omega
    rw [this]
    exact up_k) (fun e v' q => h1 e v' q) (fun a e v' q => h2 a e v' q))
