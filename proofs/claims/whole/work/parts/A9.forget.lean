/-! The class's values: rows of locals are forgotten. -/
def clrR : List Rw → Nat → Nat → List Rw
  | S, _, 0 => S
  | S, i, m + 1 => clrR (S.set i (-1, 0, 0)) (i + 1) m
theorem cnt_clr {p : Nat} : ∀ (m i : Nat) (S : List Rw), i + m ≤ S.length → cnt p (clrR S i m) ≤ cnt p S := by
  intro m
  induction m with
  | zero => intro i S h; exact Nat.le_refl _
  | succ m ih =>
    intro i S h
    have h1 := ih (i + 1) (S.set i (-1, 0, 0)) (by rw [List.length_set]; omega)
    have h2 := cnt_set (p := p) (r := ((-1 : Int), (0 : Int), (0 : Int))) S i (by omega)
    have h3 : ¬ ((-1 : Int), (0 : Int), (0 : Int)).1 = (p : Int) := by show ¬ (-1 : Int) = (p : Int); omega
    rw [if_neg h3] at h2
    show cnt p (clrR (S.set i (-1, 0, 0)) (i + 1) m) ≤ cnt p S
    omega
theorem gc_le {S S' : List Rw} {H : Hp} (h : ∀ p, cnt p S' ≤ cnt p S) : gc S' z0 (gc S z0 H) = gc S' z0 H := filt2 (fun b hb => by
  have h1 := of_decide_eq_true hb
  refine decide_eq_true ?_
  have := h b.1
  omega) H
theorem fgt_lp {t : Int} {d : Nat} {Q : Int → Mem → Prop} {z k mo a N : Nat} (haN : a ≤ N) (hN : N ≤ 1440) : ∀ (m i : Nat) (S : List Rw) (H : Hp) (v : Mem), i + m = N → N ≤ S.length → VH v z H k mo S z0 → LV S z0 H → (∀ v', VH v' z (gc (clrR S i m) z0 H) k mo (clrR S i m) z0 → LV (clrR S i m) z0 (gc (clrR S i m) z0 H) → VF v v' → Q 0 v') → LL t (d + 1) 149 2 [(2, 32), (0, (a : Int)), (0, ((N - a : Nat) : Int)), (0, (i : Int))] [] v Q := by
  intro m
  induction m with
  | zero =>
    intro i S H v hi hS h hl hq
    have e : gc (clrR S i 0) z0 H = H := gc_id hl
    rw [e] at hq
    refine s_149_2 ?_
    rw [wNat (k := N) (a := (a : Int) + ((N - a : Nat) : Int)) (by omega) (by omega)]
    exact ⟨fun c => absurd c (by omega), fun _ => hq v h hl (VF.refl v)⟩
  | succ m ih =>
    intro i S H v hi hS h hl hq
    obtain ⟨h1, h2, h3, h4⟩ := h
    have hil : i < S.length := by omega
    have hlen := h1.2.1
    have o1 := (h1.2.2 i hil).1
    refine s_149_2 ?_
    rw [wNat (k := N) (a := (a : Int) + ((N - a : Nat) : Int)) (by omega) (by omega), h1.1, Int.toNat_natCast, o1, wS (k := i) (m := 1440) (by omega) (by decide)]
    refine ⟨fun _ => ⟨fun c => absurd c (by omega), fun _ => ⟨fun _ => ⟨fun _ => ?_, fun c => absurd (by omega) c⟩, fun c => absurd (by omega) c⟩⟩, fun c => absurd (by omega) c⟩
    have hs : ∀ p : Nat, cnt p (S.set i (-1, 0, 0)) + (if (S.getD i (-1, 0, 0)).1 = (p : Int) then 1 else 0) = cnt p S := fun p => by
      have h2 := cnt_set (p := p) (r := ((-1 : Int), (0 : Int), (0 : Int))) S i hil
      have h3 : ¬ ((-1 : Int), (0 : Int), (0 : Int)).1 = (p : Int) := by show ¬ (-1 : Int) = (p : Int); omega
      rw [if_neg h3] at h2
      omega
    have hc : HC v z H k mo (fun p => cnt p (S.set i (-1, 0, 0)) + z0 p + (if (S.getD i (-1, 0, 0)).1 = (p : Int) then 1 else 0)) := h2.rc (fun p => by
      have := hs p
      show cnt p (S.set i (-1, 0, 0)) + z0 p + (if (S.getD i (-1, 0, 0)).1 = (p : Int) then 1 else 0) = cnt p S + z0 p
      omega)
    obtain ⟨d1, d2⟩ := hc.dropx (h3 _ (getD_mem S i hil)) (fun p => by
      have := cnt_le (p := p) (S.set i (-1, 0, 0))
      rw [List.length_set] at this
      show cnt p (S.set i (-1, 0, 0)) + 0 ≤ 4000
      omega) (fun b hb => by
      have h8 := hl b hb
      have := hs b.1
      omega)
    obtain ⟨w, hw⟩ : ∃ w, m_35 (S.getD i (-1, 0, 0)).1 v = w := ⟨_, rfl⟩
    rw [hw] at d1 d2 ⊢
    have ew : ∀ c, ¬ (33 ≤ c ∧ c ≤ 35) → up (up (up w 33 i (-1)) 34 i 0) 35 i 0 c = w c := fun c hc => by rw [up_ne (by omega), up_ne (by omega), up_ne (by omega)]
    have hV : VR (up (up (up w 33 i (-1)) 34 i 0) 35 i 0) (S.set i (-1, 0, 0)) := by
      refine VR.set h1 hil (by rw [ew 32 (by omega), d2 32 (by omega)]) (fun j => ⟨?_, ?_, ?_⟩)
      · rw [up_ne (by decide), up_ne (by decide)]
        by_cases c : j = i
        · rw [if_pos c, c, up_k]
        · rw [if_neg c, up_nk c, d2 33 (by omega)]
      · rw [up_ne (by decide)]
        by_cases c : j = i
        · rw [if_pos c, c, up_k]
        · rw [if_neg c, up_nk c, up_ne (by decide), d2 34 (by omega)]
      · by_cases c : j = i
        · rw [if_pos c, c, up_k]
        · rw [if_neg c, up_nk c, up_ne (by decide), up_ne (by decide), d2 35 (by omega)]
    have hH : HC (up (up (up w 33 i (-1)) 34 i 0) 35 i 0) z (gc (S.set i (-1, 0, 0)) z0 H) k mo (fun p => cnt p (S.set i (-1, 0, 0)) + z0 p) := by
      obtain ⟨⟨a1, a2, a3⟩, a4, a5, a6⟩ := d1
      exact ⟨⟨a1, a2, CHN_same (fun c hc => ew c (by omega)) _ 4000 a3⟩, by rw [ew 15 (by omega)]; exact a4, by rw [ew 19 (by omega)]; exact a5, by rw [ew 18 (by omega)]; exact a6⟩
    have hvf : VF v (up (up (up w 33 i (-1)) 34 i 0) 35 i 0) := ⟨fun c c1 c2 => by rw [ew c (by omega), d2 c (by omega)], fun x hx => by rw [ew 32 (by omega), d2 32 (by omega)]⟩
    refine ih (i + 1) (S.set i (-1, 0, 0)) (gc (S.set i (-1, 0, 0)) z0 H) _ (by omega) (by rw [List.length_set]; exact hS) ⟨hV, hH, fun q hq' => ?_, h4⟩ LV.gc (fun v' k1 k2 k3 => ?_)
    · rcases mem_set S i hq' with e | e
      · rw [e]; exact Or.inl rfl
      · rcases h3 q e with e | ⟨b, hb, e⟩
        · exact Or.inl e
        · refine Or.inr ⟨b, gc_in.mpr ⟨hb, ?_⟩, e⟩
          have := cnt_in (p := b.1) _ hq' e
          omega
    · rw [gc_le (fun p => cnt_clr m (i + 1) _ (by rw [List.length_set]; omega))] at k1 k2
      exact hq v' k1 k2 (hvf.trans k3)
