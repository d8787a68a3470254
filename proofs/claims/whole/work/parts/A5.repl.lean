/-! The class's values: what an act came to, a copy, rows to come. -/
def z0 : Nat → Nat := fun _ => 0
theorem VR.at {v : Mem} {S : List Rw} {i : Nat} (h : VR v S) (hi : i < S.length) : f_139 (i : Int) v = (S.getD i (-1, 0, 0)).1 ∧ f_140 (i : Int) v = (S.getD i (-1, 0, 0)).2.1 ∧ f_141 (i : Int) v = (S.getD i (-1, 0, 0)).2.2 := by
  obtain ⟨h1, h2, h3⟩ := h
  obtain ⟨a1, a2, a3⟩ := h3 i hi
  unfold f_139 f_140 f_141
  rw [h1, if_neg (by omega), if_pos (by omega), if_pos (by omega), if_neg (by omega), if_pos (by omega), if_pos (by omega), if_neg (by omega), if_pos (by omega), if_pos (by omega), Int.toNat_natCast]
  exact ⟨a1, a2, a3⟩
theorem LV.push {S T : List Rw} {ex : Nat → Nat} {H : Hp} (h : LV S ex H) : LV (S ++ T) ex H := fun b hb => by
  have := h b hb
  rw [cnt_app]
  omega
theorem VH.int {t : Int} {d : Nat} {v : Mem} {Q : Int → Mem → Prop} {z : Nat} {H : Hp} {k mo : Nat} {S T : List Rw} {ex : Nat → Nat} {a : Int} (h : VH v z H k mo (S ++ T) ex) (hl : LV (S ++ T) ex H) (hlt : S.length < 1440) (hq : ∀ v', VH v' z (gc S ex H) k mo (S ++ [(-1, a, 0)]) ex → LV (S ++ [(-1, a, 0)]) ex (gc S ex H) → VF v v' → Q 0 v') : RR t (d + 2) 146 [(2, 32), (0, (T.length : Int)), (0, a)] v Q := w_146 (h.pop hl (fun v1 h1 h2 h3 => VH.push (r := (-1, a, 0)) h1 hlt (Or.inl rfl) (fun v2 h4 h5 => hq v2 h4 h2.push (h3.trans h5))))
theorem VH.copy {t : Int} {d : Nat} {v : Mem} {Q : Int → Mem → Prop} {z : Nat} {H : Hp} {k mo : Nat} {S : List Rw} {ex : Nat → Nat} {i : Nat} (h : VH v z H k mo S ex) (hi : i < S.length) (hlt : S.length < 1440) (hq : ∀ v', VH v' z H k mo (S ++ [S.getD i (-1, 0, 0)]) ex → VF v v' → Q 0 v') : RR t (d + 2) 143 [(2, 32), (0, (i : Int))] v Q := by
  obtain ⟨e1, e2, e3⟩ := h.1.at hi
  refine s_143 ?_
  rw [e1, e2, e3]
  exact VH.push h hlt (h.2.2.1 _ (getD_mem S i hi)) hq
theorem gc_ex {S : List Rw} {r : Rw} {H : Hp} : gc (S ++ [r]) z0 (gc S (fun p => z0 p + (if r.1 = (p : Int) then 1 else 0)) H) = gc (S ++ [r]) z0 H := filt2 (fun b hb => by
  have h := of_decide_eq_true hb
  refine decide_eq_true ?_
  rw [cnt_one] at h
  show 0 < cnt b.1 S + (z0 b.1 + (if r.1 = ((b.1 : Nat) : Int) then 1 else 0))
  omega) H
/-- replace: rows T go, row r comes; a block of r may be new -/
theorem VH.repl {t : Int} {d : Nat} {v : Mem} {Q : Int → Mem → Prop} {z : Nat} {H : Hp} {k mo : Nat} {S T : List Rw} {r : Rw} (h : VH v z H k mo (S ++ T) z0) (ha : r.1 = -1 ∨ ∃ b ∈ H, r.1 = ((b.1 : Nat) : Int)) (hl : LV (S ++ T) (fun p => z0 p + (if r.1 = (p : Int) then 1 else 0)) H) (hlt : S.length < 1440) (hq : ∀ v', VH v' z (gc (S ++ [r]) z0 H) k mo (S ++ [r]) z0 → LV (S ++ [r]) z0 (gc (S ++ [r]) z0 H) → VF v v' → Q 0 v') : RR t (d + 2) 145 [(2, 32), (0, (T.length : Int)), (0, r.1), (0, r.2.1), (0, r.2.2)] v Q := by
  obtain ⟨g1, g2⟩ := h.hold ha
  obtain ⟨h1, h2, h3, h4⟩ := h
  refine s_145 ?_
  have hv1 : VH (m_34 r.1 v) z H k mo (S ++ T) (fun p => z0 p + (if r.1 = (p : Int) then 1 else 0)) := by
    refine ⟨h1.same (by rw [g2 32 (by decide)]) (fun c hc => g2 c (by omega)), g1.rc (fun p => ?_), h3, fun p => ?_⟩
    · show cnt p (S ++ T) + (z0 p + (if r.1 = (p : Int) then 1 else 0)) = cnt p (S ++ T) + z0 p + (if r.1 = (p : Int) then 1 else 0)
      omega
    · show 0 + (if r.1 = (p : Int) then 1 else 0) ≤ 10
      split <;> omega
  refine hv1.pop hl (fun v1 k1 k2 k3 => ?_)
  have ha2 : r.1 = -1 ∨ ∃ b ∈ gc S (fun p => z0 p + (if r.1 = (p : Int) then 1 else 0)) H, r.1 = ((b.1 : Nat) : Int) := by
    rcases ha with e | ⟨b, hb, e⟩
    · exact Or.inl e
    · refine Or.inr ⟨b, gc_in.mpr ⟨hb, ?_⟩, e⟩
      show 0 < cnt b.1 S + (0 + (if r.1 = ((b.1 : Nat) : Int) then 1 else 0))
      rw [if_pos e]
      omega
  refine VH.push k1 hlt ha2 (fun v2 k4 k5 => ?_)
  obtain ⟨q1, q2, q3, q4⟩ := k4
  have hcd : HC v2 z (gc S (fun p => z0 p + (if r.1 = (p : Int) then 1 else 0)) H) k mo (fun p => cnt p (S ++ [r]) + z0 p + (if r.1 = (p : Int) then 1 else 0)) := q2.rc (fun p => by
    show cnt p (S ++ [r]) + z0 p + (if r.1 = (p : Int) then 1 else 0) = cnt p (S ++ [r]) + (z0 p + (if r.1 = (p : Int) then 1 else 0))
    omega)
  obtain ⟨d1, d2⟩ := hcd.dropx ha2 (fun p => by
    have := cnt_le (p := p) (S ++ [r])
    have h9 := q1.2.1
    show cnt p (S ++ [r]) + 0 ≤ 4000
    omega) (fun b hb => by
    have : 0 < cnt b.1 S + (z0 b.1 + (if r.1 = ((b.1 : Nat) : Int) then 1 else 0)) := k2 b hb
    rw [cnt_app]
    omega)
  rw [gc_ex] at d1
  refine hq _ ⟨q1.same (by rw [d2 32 (by omega)]) (fun c hc => d2 c (by omega)), d1, fun q hq' => ?_, fun p => by show 0 ≤ 10; omega⟩ LV.gc ?_
  · rcases q3 q hq' with e | ⟨b, hb, e⟩
    · exact Or.inl e
    · refine Or.inr ⟨b, gc_in.mpr ⟨(gc_in.mp hb).1, ?_⟩, e⟩
      have := cnt_in (p := b.1) _ hq' e
      omega
  · have f0 : VF v (m_34 r.1 v) := ⟨fun c c1 c2 => g2 c (by omega), fun k hk => by rw [g2 32 (by decide)]⟩
    have f3 : VF v2 (m_35 r.1 v2) := ⟨fun c c1 c2 => d2 c (by omega), fun k hk => by rw [d2 32 (by omega)]⟩
    exact ((f0.trans k3).trans k5).trans f3
/-- rows of locals to come -/
def zr : Nat → List Rw
  | 0 => []
  | m + 1 => (-1, 0, 0) :: zr m
theorem VH.res {t : Int} {d : Nat} {Q : Int → Mem → Prop} {z : Nat} {H : Hp} {k mo N : Nat} {ex : Nat → Nat} (hN : N ≤ 1440) : ∀ (m i : Nat) (S : List Rw) (v : Mem), i + m = N → VH v z H k mo S ex → S.length + m ≤ 1440 → (∀ v', VH v' z H k mo (S ++ zr m) ex → VF v v' → Q 0 v') → LL t (d + 2) 148 2 [(2, 32), (0, (N : Int)), (0, (i : Int))] [] v Q := by
  intro m
  induction m with
  | zero =>
    intro i S v hi h hl hq
    have e : S ++ zr 0 = S := List.append_nil S
    rw [e] at hq
    exact s_148_2 (d := d + 1) ⟨fun c => absurd c (by omega), fun _ => hq v h (VF.refl v)⟩
  | succ m ih =>
    intro i S v hi h hl hq
    refine s_148_2 (d := d + 1) ⟨fun _ => VH.push (r := (-1, 0, 0)) h (by omega) (Or.inl rfl) (fun v1 h1 h2 => ?_), fun c => absurd (by omega) c⟩
    rw [wS (k := i) (m := 1440) (by omega) (by decide)]
    have e : S ++ zr (m + 1) = (S ++ [(-1, 0, 0)]) ++ zr m := by rw [List.append_assoc]; rfl
    rw [e] at hq
    exact ih (i + 1) _ v1 (by omega) h1 (by rw [List.length_append]; show S.length + 1 + m ≤ 1440; omega) (fun v2 h3 h4 => hq v2 h3 (h2.trans h4))
