/-! The class's values: behind an S every block is looked for. -/
theorem cnt_ex {p : Nat} : ∀ (S : List Rw), 0 < cnt p S → ∃ j, j < S.length ∧ (S.getD j (-1, 0, 0)).1 = (p : Int) := by
  intro S
  induction S with
  | nil => intro h; exact absurd h (Nat.lt_irrefl 0)
  | cons r S ih =>
    intro h
    have h : 0 < (if r.1 = (p : Int) then 1 else 0) + cnt p S := h
    by_cases e : r.1 = (p : Int)
    · exact ⟨0, by rw [List.length_cons]; omega, e⟩
    · rw [if_neg e] at h
      obtain ⟨j, h1, h2⟩ := ih (by omega)
      exact ⟨j + 1, by rw [List.length_cons]; omega, h2⟩
theorem end_lp {t : Int} {d : Nat} {w : Mem} {Q : Int → Mem → Prop} {z : Nat} (hz : z ≤ 4000) (hq : Q 0 w) : ∀ (r : Hp) (prev lo i : Nat), hok z lo r → CHN w prev r → (∀ b ∈ r, w 21 b.1 = w 15 11) → 2 * i ≤ lo → LL t (d + 1) 40 11 [(2, 15), (0, w 16 prev), (0, (i : Int))] [] w Q := by
  intro r
  induction r with
  | nil =>
    intro prev lo i h q hs hi
    rw [q.1]
    exact s_40_11 ⟨fun _ => ⟨fun _ => hq, fun _ => ⟨fun c => absurd c (by omega), fun _ => hq⟩⟩, fun _ => hq⟩
  | cons b r ih =>
    intro prev lo i h q hs hi
    have hb : b.1 + b.2.1 ≤ z := hok_le r _ h.2.2
    have hb1 := h.1
    have hb2 := h.2.1
    rw [q.1]
    refine s_40_11 ?_
    rw [Int.toNat_natCast, wS (k := i) (m := 2001) (by omega) (by decide)]
    exact ⟨fun _ => ⟨fun _ => hq, fun _ => ⟨fun _ => ⟨fun _ => ih b.1 _ (i + 1) h.2.2 q.2.2.2.2 (fun c hc => hs c (List.mem_cons_of_mem _ hc)) (by omega), fun c => absurd (hs b List.mem_cons_self) c⟩, fun _ => hq⟩⟩, fun _ => hq⟩
theorem see_lp {t : Int} {d : Nat} {v : Mem} {Q : Int → Mem → Prop} {S : List Rw} (hV : VR v S) (hq : ∀ w, (∀ c, c ≠ 21 → w c = v c) → (∀ j, j < S.length → ∀ p : Nat, p < 4000 → (S.getD j (-1, 0, 0)).1 = (p : Int) → w 21 p = v 15 11) → RR t (d + 1) 40 [(2, 15)] w (fun _ v4 => Q 0 v4)) : ∀ (m i : Nat) (w : Mem), i + m = S.length → (∀ c, c ≠ 21 → w c = v c) → (∀ j, j < i → ∀ p : Nat, p < 4000 → (S.getD j (-1, 0, 0)).1 = (p : Int) → w 21 p = v 15 11) → LL t (d + 2) 150 20 [(2, 32), (0, (i : Int))] [] w Q := by
  intro m
  induction m with
  | zero =>
    intro i w hi hw hs
    have hi : i = S.length := by omega
    subst hi
    refine s_150_20 ?_
    rw [hw 32 (by decide), hV.1]
    exact ⟨fun c => absurd c (by omega), fun _ => hq w hw hs⟩
  | succ m ih =>
    intro i w hi hw hs
    have hl := hV.2.1
    refine s_150_20 ?_
    rw [hw 32 (by decide), hV.1, hw 33 (by decide), Int.toNat_natCast, (hV.2.2 i (by omega)).1, wS (k := i) (m := 1440) (by omega) (by decide)]
    refine ⟨fun _ => ⟨fun _ => ⟨⟨by omega, by omega⟩, ih (i + 1) _ (by omega) (fun c hc => ?_) (fun j hj p hp e => ?_)⟩, fun c => absurd (by omega) c⟩, fun c => absurd (by omega) c⟩
    · unfold m_39
      split
      · exact hw c hc
      · split
        · rw [up_ne hc]; exact hw c hc
        · exact hw c hc
    · unfold m_39
      by_cases c : j = i
      · subst c
        rw [e, if_neg (by omega), if_pos (by omega), Int.toNat_natCast, up_k, hw 15 (by decide)]
      · have hj := hs j (by omega) p hp e
        split
        · exact hj
        · split
          · by_cases q : p = Int.toNat (S.getD i (-1, 0, 0)).1
            · rw [← q, up_k, hw 15 (by decide)]
            · rw [up_nk q]; exact hj
          · exact hj
theorem VH.look {t : Int} {d : Nat} {v : Mem} {Q : Int → Mem → Prop} {z : Nat} {H : Hp} {k mo : Nat} {S : List Rw} (h : VH v z H k mo S z0) (hl : LV S z0 H) (hq : ∀ v', VH v' z H k mo S z0 → VF v v' → Q 0 v') : RR t (d + 2) 150 [(2, 32)] v Q := by
  obtain ⟨h1, ⟨⟨a1, a2, a3⟩, ⟨b1, b2, b3, b4, b5, b6⟩, a5, a6⟩, h3, h4⟩ := h
  refine s_150 (d := d + 1) ⟨b6, fun _ => hq v ⟨h1, ⟨⟨a1, a2, a3⟩, ⟨b1, b2, b3, b4, b5, b6⟩, a5, a6⟩, h3, h4⟩ (VF.refl v), fun _ => ?_⟩
  obtain ⟨y, hy⟩ : ∃ y, w32 ((v 15 11) + 1) = y := ⟨_, rfl⟩
  rw [hy]
  clear hy
  have hV1 : VR (up (up v 15 11 y) 15 12 0) S := h1.same (by rw [up_ne (by decide), up_ne (by decide)]) (fun c hc => by rw [up_ne (by omega), up_ne (by omega)])
  refine see_lp hV1 (fun w g1 g2 => ?_) S.length 0 _ (Nat.zero_add _) (fun _ _ => rfl) (fun j hj => absurd hj (Nat.not_lt_zero _))
  have e15 : w 15 = up (up v 15 11 y) 15 12 0 15 := g1 15 (by decide)
  have ew : ∀ c, c ≠ 15 → c ≠ 21 → w c = v c := fun c c1 c2 => by rw [g1 c c2, up_ne c1, up_ne c1]
  have hC : CHN w 4000 H := CHN_same (fun c hc => ew c (by omega) (by omega)) H 4000 a3
  refine s_40 (end_lp (Q := fun _ v4 => Q 0 v4) a1 (hq w ⟨h1.same (by rw [ew 32 (by decide) (by decide)]) (fun c hc => ew c (by omega) (by omega)), ⟨⟨a1, a2, hC⟩, ?_, by rw [ew 19 (by decide) (by decide)]; exact a5, by rw [ew 18 (by decide) (by decide)]; exact a6⟩, h3, h4⟩ ⟨fun c c1 c2 => ew c (by omega) (by omega), fun k hk => by rw [ew 32 (by decide) (by decide)]⟩) H 4000 0 0 a2 hC (fun b hb => ?_) (by omega))
  · rw [e15]
    refine ⟨?_, ?_, ?_, ?_, ?_, Or.inl ?_⟩
    · rw [up_nk (by decide), up_nk (by decide)]; exact b1
    · rw [up_nk (by decide), up_nk (by decide)]; exact b2
    · rw [up_nk (by decide), up_nk (by decide)]; exact b3
    · rw [up_nk (by decide), up_nk (by decide)]; exact b4
    · rw [up_nk (by decide), up_nk (by decide)]; exact b5
    · rw [up_k]
  · have hp := hl b hb
    have hp : 0 < cnt b.1 S + 0 := hp
    obtain ⟨j, j1, j2⟩ := cnt_ex S (by omega : 0 < cnt b.1 S)
    have hi := hok_in H 0 a2 hb
    rw [e15]
    exact g2 j j1 b.1 (by omega) j2
