/-! The reference: blocks that no live text refers to go. -/
theorem rrw.ref {J : Jb} {n : Nat} {r : Rw} {ty x y w : Int} (h : rrw J n r ty x y w) : (x < 0 ∧ r.1 = -1) ∨ ∃ j ∈ J, x = ((j.1 : Nat) : Int) ∧ r.1 = ((j.2.1 : Nat) : Int) := by
  rcases h with ⟨-, e, ex, -⟩ | ⟨-, ⟨a, e, -⟩, ex, -⟩ | ⟨-, s, c, e, -, -, ex, -⟩ | ⟨-, j, hj, o, c, e, -, -, ex, -⟩
  · exact Or.inl ⟨by omega, by rw [e]⟩
  · exact Or.inl ⟨by omega, by rw [e]⟩
  · exact Or.inl ⟨by omega, by rw [e]⟩
  · exact Or.inr ⟨j, hj, ex, by rw [e]⟩
theorem rrw.mono {J J' : Jb} {n : Nat} {r : Rw} {ty x y w : Int} (h : rrw J n r ty x y w) (hm : ∀ j ∈ J, r.1 = ((j.2.1 : Nat) : Int) → j ∈ J') : rrw J' n r ty x y w := by
  rcases h with h | h | h | ⟨h0, j, hj, o, c, e, h1, h2, h3⟩
  · exact Or.inl h
  · exact Or.inr (Or.inl h)
  · exact Or.inr (Or.inr (Or.inl h))
  · exact Or.inr (Or.inr (Or.inr ⟨h0, j, hm j hj (by rw [e]), o, c, e, h1, h2, h3⟩))
theorem mem_blk {J : Jb} {j : Nat × Nat × Nat × Nat} (h : j ∈ J) : j.2 ∈ blk J := List.mem_map.mpr ⟨j, h, rfl⟩
theorem RHb.sz {v : Mem} {z : Nat} {J : Jb} (h : RHb v z J) {j : Nat × Nat × Nat × Nat} (hj : j ∈ J) : 2 ≤ j.2.2.1 ∧ j.2.1 + j.2.2.1 ≤ z := by
  have := hok_in _ _ h.1.1 (mem_blk hj)
  exact ⟨this.2.1, this.2.2⟩
theorem RHb.id {v : Mem} {z : Nat} {J : Jb} (h : RHb v z J) {j k : Nat × Nat × Nat × Nat} (hj : j ∈ J) (hk : k ∈ J) : j.1 = k.1 ↔ j.2.1 = k.2.1 := by
  constructor
  · intro e
    have a := (h.2.2.1 j hj).1
    have b := (h.2.2.1 k hk).1
    rw [e, b] at a
    omega
  · intro e
    have s1 := h.sz hj
    have s2 := h.sz hk
    have a := h.2.2.2.2.1 j hj j.2.1 (Nat.le_refl _) (by omega)
    have b := h.2.2.2.2.1 k hk k.2.1 (Nat.le_refl _) (by omega)
    rw [e, b] at a
    omega
/-- what the rows S refer to is marked -/
def MKr (w : Mem) (J : Jb) (S : List Rw) : Prop := ∀ j ∈ J, w 76 j.1 = (if 0 < cnt j.2.1 S then 1 else 0)
theorem MKr.neg {w : Mem} {J : Jb} {S : List Rw} {r : Rw} (h : MKr w J S) (hr : r.1 = -1) : MKr w J (S ++ [r]) := by
  intro j hj
  have e : cnt j.2.1 (S ++ [r]) = cnt j.2.1 S := by
    rw [cnt_one, hr, if_neg (by omega), Nat.add_zero]
  rw [e]
  exact h j hj
theorem MKr.pos {v w : Mem} {z : Nat} {J : Jb} {S : List Rw} {r : Rw} {k : Nat × Nat × Nat × Nat} (hH : RHb v z J) (h : MKr w J S) (hk : k ∈ J) (hr : r.1 = ((k.2.1 : Nat) : Int)) : MKr (up w 76 k.1 1) J (S ++ [r]) := by
  intro j hj
  by_cases c : j.1 = k.1
  · have e := (hH.id hj hk).mp c
    rw [c, up_k, if_pos (by rw [cnt_one, hr, e, if_pos rfl]; omega)]
  · have e : ¬ j.2.1 = k.2.1 := fun e => c ((hH.id hj hk).mpr e)
    rw [up_nk c, h j hj]
    have e2 : cnt j.2.1 (S ++ [r]) = cnt j.2.1 S := by
      rw [cnt_one, hr, if_neg (by omega), Nat.add_zero]
    rw [e2]
theorem take_one {α : Type} {d : α} : ∀ (l : List α) (i : Nat), i < l.length → l.take (i + 1) = l.take i ++ [l.getD i d] := by
  intro l
  induction l with
  | nil => intro i h; exact absurd h (Nat.not_lt_zero _)
  | cons x l ih =>
    intro i h
    match i, h with
    | 0, _ => rfl
    | i + 1, h =>
      show x :: l.take (i + 1) = x :: (l.take i ++ [l.getD i d])
      rw [ih i (by simp at h; omega)]
def locs : List Fr → List Rw
  | [] => []
  | f :: r => rws f.1 ++ locs r
theorem cnt_zr {p : Nat} : ∀ m : Nat, cnt p (zr m) = 0 := by
  intro m
  induction m with
  | zero => rfl
  | succ m ih =>
    show (if (-1 : Int) = (p : Int) then 1 else 0) + cnt p (zr m) = 0
    rw [ih, if_neg (by omega)]
theorem cnt_flat {p : Nat} : ∀ (FS : List Fr), cnt p (flat FS) = cnt p (rws (tmps FS)) + cnt p (locs FS) := by
  intro FS
  induction FS with
  | nil => rfl
  | cons f r ih =>
    show cnt p ((rws f.1 ++ (zr f.2.1 ++ rws f.2.2)) ++ flat r) = cnt p (rws (f.2.2 ++ tmps r)) + cnt p (rws f.1 ++ locs r)
    rw [rws_app, cnt_app, cnt_app, cnt_app, cnt_app, cnt_app, cnt_zr, ih]
    omega
theorem sw1 {t : Int} {d : Nat} {v : Mem} {Q : Int → Mem → Prop} {hg : Nat} (h74 : v 38 74 = (hg : Int)) (hh : hg ≤ 2001) (hq : ∀ w, (∀ c, c ≠ 76 → w c = v c) → (∀ k, k < hg → w 76 k = 0) → LL t d 232 25 [(2, 38), (0, 0), (3, 0)] [] w Q) : ∀ (m k : Nat) (w : Mem), k + m = hg → (∀ c, c ≠ 76 → w c = v c) → (∀ i, i < k → w 76 i = 0) → LL t d 232 2 [(2, 38), (0, (k : Int)), (3, 0)] [] w Q := by
  intro m
  induction m with
  | zero =>
    intro k w hk hw h0
    have e74 : w 38 74 = (hg : Int) := by rw [hw 38 (by decide)]; exact h74
    exact s_232_2 ⟨fun c => absurd c (by omega), fun _ => hq w hw (fun i hi => h0 i (by omega))⟩
  | succ m ih =>
    intro k w hk hw h0
    have e74 : w 38 74 = (hg : Int) := by rw [hw 38 (by decide)]; exact h74
    refine s_232_2 ⟨fun _ => ⟨⟨by omega, by omega⟩, ?_⟩, fun c => absurd (by omega) c⟩
    rw [wS (k := k) (m := 2001) (by omega) (by decide), Int.toNat_natCast]
    refine ih (k + 1) _ (by omega) (fun c hc => by rw [up_ne hc]; exact hw c hc) (fun i hi => ?_)
    by_cases e : i = k
    · rw [e, up_k]
    · rw [up_nk e]; exact h0 i (by omega)
theorem sw2 {t : Int} {d : Nat} {v : Mem} {Q : Int → Mem → Prop} {n z : Nat} {J : Jb} {X : List TyR} (hH : RHb v z J) (hX : RSt v n J X) (hq : ∀ w, (∀ c, c ≠ 76 → w c = v c) → MKr w J (rws X) → LL t d 232 62 [(2, 38), (0, 0), (3, 0)] [] w Q) : ∀ (m k : Nat) (w : Mem), k + m = X.length → (∀ c, c ≠ 76 → w c = v c) → MKr w J (rws (X.take k)) → LL t d 232 25 [(2, 38), (0, (k : Int)), (3, 0)] [] w Q := by
  obtain ⟨x1, x2, x3⟩ := hX
  intro m
  induction m with
  | zero =>
    intro k w hk hw h0
    have e52 : w 38 52 = ((X.length : Nat) : Int) := by rw [hw 38 (by decide)]; exact x1
    rw [List.take_of_length_le (by omega)] at h0
    exact s_232_25 ⟨fun c => absurd c (by omega), fun _ => hq w hw h0⟩
  | succ m ih =>
    intro k w hk hw h0
    have e52 : w 38 52 = ((X.length : Nat) : Int) := by rw [hw 38 (by decide)]; exact x1
    refine s_232_25 ⟨fun _ => ⟨⟨by omega, by omega⟩, ?_⟩, fun c => absurd (by omega) c⟩
    rw [wS (k := k) (m := 1501) (by omega) (by decide), Int.toNat_natCast, hw 66 (by decide)]
    have et : rws (X.take (k + 1)) = rws (X.take k) ++ [(X.getD k ((-1, 0, 0), 0)).1] := by
      rw [take_one (d := ((-1, 0, 0), 0)) X k (by omega), rws_app]
      rfl
    rcases (x3 k (by omega)).ref with ⟨e1, e2⟩ | ⟨j, hj, e1, e2⟩
    · refine ⟨fun _ => ih (k + 1) w (by omega) hw ?_, fun c => absurd e1 c⟩
      rw [et]
      exact h0.neg e2
    · have hg := hH.2.1
      obtain ⟨hg, g1, g2, g3⟩ := hg
      have g4 := g3 j hj
      rw [e1]
      refine ⟨fun c => absurd c (by omega), fun _ => ⟨⟨by omega, by omega⟩, ⟨by omega, by omega⟩, ?_⟩⟩
      rw [Int.toNat_natCast]
      refine ih (k + 1) _ (by omega) (fun c hc => by rw [up_ne hc]; exact hw c hc) ?_
      rw [et]
      exact MKr.pos hH h0 hj e2
theorem sw3 {t : Int} {d : Nat} {v : Mem} {Q : Int → Mem → Prop} {n z f : Nat} {J : Jb} {Y : List TyR} {S : List Rw} (hH : RHb v z J) (hf : f < 12) (hY : RLf v n J f Y) (hq : ∀ w, (∀ c, c ≠ 76 → w c = v c) → MKr w J (S ++ rws Y) → LL t d 232 62 [(2, 38), (0, ((f + 1 : Nat) : Int)), (3, 0)] [] w Q) : ∀ (m k : Nat) (w : Mem), k + m = Y.length → (∀ c, c ≠ 76 → w c = v c) → MKr w J (S ++ rws (Y.take k)) → LL t d 232 75 [(2, 38), (0, (f : Int)), (0, ((30 * f + k : Nat) : Int))] [] w Q := by
  obtain ⟨x1, x2, x3⟩ := hY
  intro m
  induction m with
  | zero =>
    intro k w hk hw h0
    rw [List.take_of_length_le (by omega)] at h0
    refine s_232_75 ⟨⟨by omega, by omega⟩, ?_⟩
    rw [Int.toNat_natCast, hw 72 (by decide), x1, wNat (k := 30 * f) (a := 30 * (f : Int)) (by omega) (by omega), wNat (k := 30 * f + Y.length) (by omega) (by omega), wS (k := f) (m := 12) (by omega) (by decide)]
    exact ⟨fun c => absurd c (by omega), fun _ => hq w hw h0⟩
  | succ m ih =>
    intro k w hk hw h0
    refine s_232_75 ⟨⟨by omega, by omega⟩, ?_⟩
    rw [Int.toNat_natCast, hw 72 (by decide), x1, wNat (k := 30 * f) (a := 30 * (f : Int)) (by omega) (by omega), wNat (k := 30 * f + Y.length) (by omega) (by omega), Int.toNat_natCast, hw 69 (by decide), wNat (k := 30 * f + (k + 1)) (a := ((30 * f + k : Nat) : Int) + 1) (by omega) (by omega)]
    refine ⟨fun _ => ⟨⟨by omega, by omega⟩, ?_⟩, fun c => absurd (by omega) c⟩
    have et : S ++ rws (Y.take (k + 1)) = (S ++ rws (Y.take k)) ++ [(Y.getD k ((-1, 0, 0), 0)).1] := by
      rw [take_one (d := ((-1, 0, 0), 0)) Y k (by omega), rws_app, List.append_assoc]
      rfl
    rcases (x3 k (by omega)).1.ref with ⟨e1, e2⟩ | ⟨j, hj, e1, e2⟩
    · refine ⟨fun _ => ih (k + 1) w (by omega) hw ?_, fun c => absurd e1 c⟩
      rw [et]
      exact h0.neg e2
    · obtain ⟨hg, g1, g2, g3⟩ := hH.2.1
      have g4 := g3 j hj
      rw [e1]
      refine ⟨fun c => absurd c (by omega), fun _ => ⟨⟨by omega, by omega⟩, ⟨by omega, by omega⟩, ?_⟩⟩
      rw [Int.toNat_natCast]
      refine ih (k + 1) _ (by omega) (fun c hc => by rw [up_ne hc]; exact hw c hc) ?_
      rw [et]
      exact MKr.pos hH h0 hj e2
theorem sw4 {t : Int} {d : Nat} {v : Mem} {Q : Int → Mem → Prop} {n z F : Nat} {J : Jb} (hH : RHb v z J) (h57 : v 38 57 = (F : Int)) (hF : F ≤ 12) : ∀ (R : List Fr) (f : Nat) (S : List Rw) (w : Mem), f + R.length = F → RLo v n J f R → (∀ c, c ≠ 76 → w c = v c) → MKr w J S → (∀ w', (∀ c, c ≠ 76 → w' c = v c) → MKr w' J (S ++ locs R) → LL t d 232 125 [(2, 38), (0, 0), (3, 0)] [] w' Q) → LL t d 232 62 [(2, 38), (0, (f : Int)), (3, 0)] [] w Q := by
  intro R
  induction R with
  | nil =>
    intro f S w hf hR hw h0 hq
    have e57 : w 38 57 = (F : Int) := by rw [hw 38 (by decide)]; exact h57
    have hf : f = F := hf
    refine w_232_62 ⟨fun c => absurd c (by omega), fun _ => hq w hw ?_⟩
    show MKr w J (S ++ [])
    rw [List.append_nil]
    exact h0
  | cons x R ih =>
    intro f S w hf hR hw h0 hq
    have hf : f + (R.length + 1) = F := hf
    have e57 : w 38 57 = (F : Int) := by rw [hw 38 (by decide)]; exact h57
    refine w_232_62 ⟨fun _ => ?_, fun c => absurd (by omega) c⟩
    rw [wNat (k := 30 * f + 0) (a := 30 * (f : Int)) (by omega) (by omega)]
    refine sw3 hH (by omega) hR.1 (fun w' hw' h' => ih (f + 1) _ w' (by omega) hR.2 hw' h' (fun w2 hw2 h2 => hq w2 hw2 ?_)) x.1.length 0 w (by omega) hw (by rw [List.take_zero]; show MKr w J (S ++ []); rw [List.append_nil]; exact h0)
    show MKr w2 J (S ++ (rws x.1 ++ locs R))
    rw [← List.append_assoc]
    exact h2
theorem blk_flt {P : Nat × Nat × Nat → Bool} : ∀ J : Jb, blk (J.filter (fun j => P j.2)) = (blk J).filter P := by
  intro J
  induction J with
  | nil => rfl
  | cons j J ih =>
    show blk ((j :: J).filter (fun j => P j.2)) = List.filter P (j.2 :: blk J)
    by_cases c : P j.2 = true
    · rw [List.filter_cons_of_pos (p := fun j : Nat × Nat × Nat × Nat => P j.2) c, List.filter_cons_of_pos c]
      show j.2 :: blk (J.filter (fun j => P j.2)) = _
      rw [ih]
    · rw [List.filter_cons_of_neg (p := fun j : Nat × Nat × Nat × Nat => P j.2) c, List.filter_cons_of_neg c]
      exact ih
/-- without the block at p -/
def jdel (p : Nat) (J : Jb) : Jb := J.filter (fun j => (fun b : Nat × Nat × Nat => decide (b.1 ≠ p)) j.2)
theorem jdel_in {p : Nat} {J : Jb} {j : Nat × Nat × Nat × Nat} : j ∈ jdel p J ↔ j ∈ J ∧ j.2.1 ≠ p := by
  unfold jdel
  rw [List.mem_filter]
  exact ⟨fun h => ⟨h.1, of_decide_eq_true h.2⟩, fun h => ⟨h.1, decide_eq_true h.2⟩⟩
theorem blk_jdel {v : Mem} {z : Nat} {J : Jb} {p : Nat} (h : RHb v z J) : blk (jdel p J) = hdel p (blk J) := by
  unfold jdel
  rw [blk_flt (P := fun b : Nat × Nat × Nat => decide (b.1 ≠ p))]
  exact hdel_flt _ 0 h.1.1 (fun c _ hc => decide_eq_true hc) (fun c _ hc => decide_eq_false (fun q => q hc))
theorem RHb.del {v w : Mem} {z : Nat} {J : Jb} {k : Nat × Nat × Nat × Nat} (h : RHb v z J) (hk : k ∈ J) (e65 : w 38 65 = v 38 65) (e74 : w 38 74 = v 38 74) (e73 : w 38 73 = v 38 73 - ((k.2.2.1 : Nat) : Int)) (hb : w 73 k.1 = -1) (hb2 : ∀ x, x ≠ k.1 → w 73 x = v 73 x) (h4 : w 74 = v 74) (h5 : w 75 = v 75) (ho : ∀ p, k.2.1 ≤ p → p < k.2.1 + k.2.2.1 → w 78 p = -1) (ho2 : ∀ p, ¬ (k.2.1 ≤ p ∧ p < k.2.1 + k.2.2.1) → w 78 p = v 78 p) : RHb w z (jdel k.2.1 J) := by
  have hid := fun j hj => h.id (j := j) (k := k) hj hk
  have hbd := blk_jdel (p := k.2.1) h
  have hsm := hsum_del (b := k.2) _ 0 h.1.1 (mem_blk hk)
  obtain ⟨⟨a1, a2, a3, a4⟩, ⟨hg, a5, a5', a5''⟩, a6, a7, a8, a9⟩ := h
  refine ⟨⟨?_, by rw [e65]; exact a2, a3, ?_⟩, ⟨hg, by rw [e74]; exact a5, a5', fun j hj => a5'' j (jdel_in.mp hj).1⟩, fun j hj => ?_, fun x hx hn => ?_, fun j hj p p1 p2 => ?_, fun p hp hn => ?_⟩
  · rw [hbd]
    exact hok_del _ _ a1
  · rw [hbd, e73, a4]
    have hsm : hsum (hdel k.2.1 (blk J)) + k.2.2.1 = hsum (blk J) := hsm
    omega
  · obtain ⟨j1, j2⟩ := jdel_in.mp hj
    rw [hb2 j.1 (fun e => j2 ((hid j j1).mp e)), h4, h5]
    exact a6 j j1
  · by_cases c : x = k.1
    · rw [c]; exact hb
    · rw [hb2 x c]
      refine a7 x hx (fun j hj e => ?_)
      refine hn j (jdel_in.mpr ⟨hj, fun q => c ?_⟩) e
      rw [← e]
      exact (hid j hj).mpr q
  · obtain ⟨j1, j2⟩ := jdel_in.mp hj
    have q := a8 j j1 p p1 p2
    by_cases c : k.2.1 ≤ p ∧ p < k.2.1 + k.2.2.1
    · have q2 := a8 k hk p c.1 c.2
      rw [q] at q2
      exact absurd ((hid j j1).mp (by omega)) j2
    · rw [ho2 p c]; exact q
  · by_cases c : k.2.1 ≤ p ∧ p < k.2.1 + k.2.2.1
    · exact ho p c.1 c.2
    · rw [ho2 p c]
      refine a9 p hp (fun j hj q => ?_)
      by_cases e : j.2.1 = k.2.1
      · have : j.1 = k.1 := (hid j hj).mpr e
        have s1 := (a6 j hj).2.1
        have s2 := (a6 k hk).2.1
        rw [this, s2] at s1
        omega
      · exact hn j (jdel_in.mpr ⟨hj, e⟩) q
theorem gc_jdel {S : List Rw} {p : Nat} (hp : cnt p S = 0) : ∀ J : Jb, gc S z0 (blk (jdel p J)) = gc S z0 (blk J) := by
  intro J
  unfold jdel
  rw [blk_flt (P := fun b : Nat × Nat × Nat => decide (b.1 ≠ p))]
  unfold gc
  rw [List.filter_filter]
  refine List.filter_congr (fun b hb => ?_)
  show (decide (0 < cnt b.1 S + z0 b.1) && decide (b.1 ≠ p)) = decide (0 < cnt b.1 S + z0 b.1)
  by_cases c : b.1 = p
  · have : ¬ 0 < cnt b.1 S + z0 b.1 := by rw [c, hp]; show ¬ 0 < 0 + 0; omega
    rw [decide_eq_false this]
    rfl
  · rw [decide_eq_true (show b.1 ≠ p from c), Bool.and_true]
/-- the places of a block are nobody's -/
theorem sw5 {t : Int} {d : Nat} {v : Mem} {Q : Int → Mem → Prop} {k : Nat × Nat × Nat × Nat} (hk : k.1 < 2001) (h73 : v 73 k.1 = ((k.2.1 : Nat) : Int)) (h74 : v 74 k.1 = ((k.2.2.1 : Nat) : Int)) (hz : k.2.1 + k.2.2.1 ≤ 4000) (hq : ∀ w, (∀ c, c ≠ 78 → w c = v c) → (∀ p, k.2.1 ≤ p → p < k.2.1 + k.2.2.1 → w 78 p = -1) → (∀ p, ¬ (k.2.1 ≤ p ∧ p < k.2.1 + k.2.2.1) → w 78 p = v 78 p) → LL t d 232 125 [(2, 38), (0, (w32 ((k.1 : Int) + 1))), (3, 0)] [] (up (up w 73 k.1 (-1)) 38 73 (w32 ((w 38 73) - ((k.2.2.1 : Nat) : Int)))) Q) : ∀ (m i : Nat) (w : Mem), i + m = k.2.2.1 → (∀ c, c ≠ 78 → w c = v c) → (∀ p, k.2.1 ≤ p → p < k.2.1 + i → w 78 p = -1) → (∀ p, ¬ (k.2.1 ≤ p ∧ p < k.2.1 + i) → w 78 p = v 78 p) → LL t d 232 158 [(2, 38), (0, (k.1 : Int)), (0, ((k.2.1 + i : Nat) : Int))] [] w Q := by
  intro m
  induction m with
  | zero =>
    intro i w hi hw h1 h2
    refine w_232_158 ⟨⟨by omega, by omega⟩, ⟨by omega, by omega⟩, ?_⟩
    rw [Int.toNat_natCast, hw 73 (by decide), hw 74 (by decide), h73, h74, wNat (k := k.2.1 + k.2.2.1) (by omega) (by omega)]
    have hi : i = k.2.2.1 := by omega
    subst hi
    exact ⟨fun c => absurd c (by omega), fun _ => ⟨⟨by omega, by omega⟩, ⟨by omega, by omega⟩, hq w hw h1 h2⟩⟩
  | succ m ih =>
    intro i w hi hw h1 h2
    refine w_232_158 ⟨⟨by omega, by omega⟩, ⟨by omega, by omega⟩, ?_⟩
    rw [Int.toNat_natCast, hw 73 (by decide), hw 74 (by decide), h73, h74, wNat (k := k.2.1 + k.2.2.1) (by omega) (by omega), Int.toNat_natCast, wNat (k := k.2.1 + (i + 1)) (a := ((k.2.1 + i : Nat) : Int) + 1) (by omega) (by omega)]
    refine ⟨fun _ => ⟨⟨by omega, by omega⟩, ih (i + 1) _ (by omega) (fun c hc => by rw [up_ne hc]; exact hw c hc) (fun p p1 p2 => ?_) (fun p hp => ?_)⟩, fun c => absurd (by omega) c⟩
    · by_cases e : p = k.2.1 + i
      · rw [e, up_k]
      · rw [up_nk e]; exact h1 p p1 (by omega)
    · rw [up_nk (by omega)]
      exact h2 p (by omega)
/-- what a sweep changes -/
def SWf (v w : Mem) : Prop := (∀ c, c ≠ 38 → c ≠ 73 → c ≠ 76 → c ≠ 78 → w c = v c) ∧ ∀ k, k ≠ 73 → k ≠ 74 → w 38 k = v 38 k
theorem SWf.trans {v v1 v2 : Mem} (h : SWf v v1) (h' : SWf v1 v2) : SWf v v2 := ⟨fun c a b e f => (h'.1 c a b e f).trans (h.1 c a b e f), fun k a b => (h'.2 k a b).trans (h.2 k a b)⟩
theorem sw6 {t : Int} {d : Nat} {Q : Int → Mem → Prop} {z hg : Nat} {S : List Rw} (hh : hg ≤ 2001) : ∀ (m k : Nat) (J : Jb) (w : Mem), k + m = hg → w 38 74 = (hg : Int) → RHb w z J → MKr w J S → (∀ j ∈ J, j.1 < k → 0 < cnt j.2.1 S) → (∀ J' w', RHb w' z J' → blk J' = gc S z0 (blk J) → (∀ j ∈ J, 0 < cnt j.2.1 S → j ∈ J') → SWf w w' → LL t d 232 216 [(2, 38), (3, 0), (3, 0)] [] w' Q) → LL t d 232 125 [(2, 38), (0, (k : Int)), (3, 0)] [] w Q := by
  intro m
  induction m with
  | zero =>
    intro k J w hk e74 hH hM hl hq
    refine w_232_125 ⟨fun c => absurd c (by omega), fun _ => hq J w hH ?_ (fun j hj _ => hj) ⟨fun _ _ _ _ _ => rfl, fun _ _ _ => rfl⟩⟩
    refine (gc_all (fun b hb => ?_)).symm
    obtain ⟨j, hj, e⟩ := List.mem_map.mp hb
    obtain ⟨hg', g1, g2, g3⟩ := hH.2.1
    have := g3 j hj
    rw [g1] at e74
    rw [← e]
    exact hl j hj (by omega)
  | succ m ih =>
    intro k J w hk e74 hH hM hl hq
    refine w_232_125 ⟨fun _ => ⟨⟨by omega, by omega⟩, ?_⟩, fun c => absurd (by omega) c⟩
    rw [Int.toNat_natCast]
    by_cases ex : ∃ j ∈ J, j.1 = k
    · obtain ⟨j, hj, ej⟩ := ex
      subst ej
      have s := hH.sz hj
      have hz := hH.1.2.2.1
      obtain ⟨b1, b2, b3⟩ := hH.2.2.1 j hj
      refine ⟨fun c => absurd c (by rw [b1]; omega), fun _ => ⟨⟨by omega, by omega⟩, ?_⟩⟩
      rw [hM j hj]
      by_cases cl : 0 < cnt j.2.1 S
      · rw [if_pos cl]
        refine ⟨fun c => absurd c (by decide), fun _ => ?_⟩
        rw [wS (k := j.1) (m := 2001) (by omega) (by decide)]
        refine ih (j.1 + 1) J w (by omega) e74 hH hM (fun i hi hlt => ?_) hq
        by_cases e : i.1 = j.1
        · rw [(hH.id hi hj).mp e]; exact cl
        · exact hl i hi (by omega)
      · rw [if_neg cl]
        refine ⟨fun _ => ⟨⟨by omega, by omega⟩, ?_⟩, fun c => absurd rfl c⟩
        rw [b1]
        refine sw5 (k := j) (v := w) (by omega) b1 b2 (by omega) (fun w1 g1 g2 g3 => ?_) j.2.2.1 0 w (by omega) (fun _ _ => rfl) (fun p p1 p2 => absurd p2 (by omega)) (fun p _ => rfl)
        rw [wS (k := j.1) (m := 2001) (by omega) (by decide), g1 38 (by decide), hH.1.2.2.2]
        have hsm := hsum_del (b := j.2) _ 0 hH.1.1 (mem_blk hj)
        have hle := hsum_le _ 0 hH.1.1
        have hsm : hsum (hdel j.2.1 (blk J)) + j.2.2.1 = hsum (blk J) := hsm
        rw [wNat (k := hsum (blk J) - j.2.2.1) (by omega) (by omega)]
        have hc0 : cnt j.2.1 S = 0 := by omega
        refine ih (j.1 + 1) (jdel j.2.1 J) _ (by omega) (by rw [up_nk (by decide), up_ne (by decide), g1 38 (by decide)]; exact e74) ?_ (fun i hi => ?_) (fun i hi hlt => ?_) (fun J' w' q1 q2 q3 q4 => hq J' w' q1 ?_ (fun i hi hc => q3 i (jdel_in.mpr ⟨hi, fun e => ?_⟩) hc) ⟨fun c c1 c2 c3 c4 => ?_, fun k k1 k2 => ?_⟩)
        · refine hH.del hj ?_ ?_ ?_ ?_ (fun x hx => ?_) ?_ ?_ (fun p p1 p2 => ?_) (fun p hp => ?_)
          · rw [up_nk (by decide), up_ne (by decide), g1 38 (by decide)]
          · rw [up_nk (by decide), up_ne (by decide), g1 38 (by decide)]
          · rw [up_k, hH.1.2.2.2]; omega
          · rw [up_ne (by decide), up_k]
          · rw [up_ne (by decide), up_nk hx, g1 73 (by decide)]
          · rw [up_ne (by decide), up_ne (by decide), g1 74 (by decide)]
          · rw [up_ne (by decide), up_ne (by decide), g1 75 (by decide)]
          · rw [up_ne (by decide), up_ne (by decide)]; exact g2 p p1 p2
          · rw [up_ne (by decide), up_ne (by decide)]; exact g3 p hp
        · rw [up_ne (by decide), up_ne (by decide), g1 76 (by decide)]
          exact hM i (jdel_in.mp hi).1
        · obtain ⟨i1, i2⟩ := jdel_in.mp hi
          exact hl i i1 (by
            have : ¬ i.1 = j.1 := fun e => i2 ((hH.id i1 hj).mp e)
            omega)
        · rw [q2, gc_jdel hc0]
        · rw [e] at hc; omega
        · rw [q4.1 c c1 c2 c3 c4, up_ne c1, up_ne c2, g1 c c4]
        · rw [q4.2 k k1 k2, up_nk k1, up_ne (by decide), g1 38 (by decide)]
    · have hn := hH.2.2.2.1 k (by omega) (fun j hj e => ex ⟨j, hj, e⟩)
      refine ⟨fun _ => ?_, fun c => absurd (by rw [hn]; decide) c⟩
      rw [wS (k := k) (m := 2001) (by omega) (by decide)]
      exact ih (k + 1) J w (by omega) e74 hH hM (fun i hi hlt => hl i hi (by
        have : ¬ i.1 = k := fun e => ex ⟨i, hi, e⟩
        omega)) hq
theorem sw7 {t : Int} {d : Nat} {Q : Int → Mem → Prop} {z : Nat} {J : Jb} : ∀ (hg : Nat) (w : Mem), w 38 74 = (hg : Int) → RHb w z J → (∀ w', RHb w' z J → SWf w w' → Q 0 w') → LL t d 232 216 [(2, 38), (3, 0), (3, 0)] [] w Q := by
  intro hg
  induction hg with
  | zero =>
    intro w e hH hq
    exact w_232_216 ⟨fun c => absurd c (by omega), fun _ => hq w hH ⟨fun _ _ _ _ _ => rfl, fun _ _ _ => rfl⟩⟩
  | succ hg ih =>
    intro w e hH hq
    obtain ⟨g, g1, g2, g3⟩ := hH.2.1
    have eg : g = hg + 1 := by omega
    subst eg
    have e1 : w32 (w 38 74 - 1) = (hg : Int) := by rw [e]; exact wNat (by omega) (by omega)
    refine w_232_216 ⟨fun _ => ?_, fun c => absurd (by omega) c⟩
    rw [e1, Int.toNat_natCast]
    refine ⟨⟨by omega, by omega⟩, fun c => ?_, fun _ => hq w hH ⟨fun _ _ _ _ _ => rfl, fun _ _ _ => rfl⟩⟩
    refine ih _ up_k ?_ (fun w' q1 q2 => hq w' q1 (SWf.trans ⟨fun c c1 _ _ _ => up_ne c1, fun k _ k2 => up_nk k2⟩ q2))
    obtain ⟨⟨a1, a2, a3, a4⟩, -, a6, a7, a8, a9⟩ := hH
    refine ⟨⟨a1, by rw [up_nk (by decide)]; exact a2, a3, by rw [up_nk (by decide)]; exact a4⟩, ⟨hg, up_k, by omega, fun j hj => ?_⟩, ?_, ?_, ?_, ?_⟩
    · have j1 := g3 j hj
      have j2 := (a6 j hj).1
      by_cases e : j.1 = hg
      · rw [e] at j2; omega
      · omega
    · rw [up_ne (by decide), up_ne (by decide), up_ne (by decide)]; exact a6
    · rw [up_ne (by decide)]; exact a7
    · rw [up_ne (by decide)]; exact a8
    · rw [up_ne (by decide)]; exact a9
/-- from other blocks, the same rows -/
theorem RX.swp {v0 v v' : Mem} {n z dp : Nat} {en : Int} {J J' : Jb} {FS : List Fr} {ρ : Rho} (h : RX v0 n z dp en J FS ρ v) (hH : RHb v' z J') (hb : blk J' = rH ρ) (hm : ∀ j ∈ J, 0 < cnt j.2.1 (flat FS) → j ∈ J') (hf : SWf v v') : RX v0 n z dp en J' FS ρ v' := by
  obtain ⟨a1, a2, a3, a4, a5, a6, a7⟩ := h
  have mono : ∀ r : Rw, (∃ p : Nat, r.1 = (p : Int) → 0 < cnt p (flat FS)) → True := fun _ _ => trivial
  refine ⟨hH, ?_, ⟨by rw [hf.2 52 (by decide) (by decide)]; exact a3.1, a3.2.1, fun i hi => ?_⟩, ?_, a5.same (fun k hk => hf.2 k (by omega) (by omega)) (hf.1 79 (by decide) (by decide) (by decide) (by decide)), ?_, a7.trans (fun c c1 c2 => hf.1 c c2 (by omega) (by omega) (by omega)) (fun k hk => hf.2 k (by omega) (by omega))⟩
  · rw [hb, a2]
    exact (gc_all LV.gc).symm
  · rw [hf.1 66 (by decide) (by decide) (by decide) (by decide), hf.1 67 (by decide) (by decide) (by decide) (by decide), hf.1 68 (by decide) (by decide) (by decide) (by decide)]
    refine (a3.2.2 i hi).mono (fun j hj e => hm j hj ?_)
    rw [cnt_flat]
    have : ((tmps FS).getD i ((-1, 0, 0), 0)).1 ∈ rws (tmps FS) := List.mem_map.mpr ⟨_, getD_mem (d := ((-1, 0, 0), 0)) _ i hi, rfl⟩
    have := cnt_in _ this e
    omega
  · have key : ∀ (R : List Fr) (f : Nat), (∀ p, cnt p (locs R) ≤ cnt p (flat FS)) → RLo v n J f R → RLo v' n J' f R := by
      intro R
      induction R with
      | nil => intro f _ _; trivial
      | cons x R ih =>
        intro f hc hR
        have hc' : ∀ p, cnt p (rws x.1) + cnt p (locs R) ≤ cnt p (flat FS) := fun p => by
          have := hc p
          have e : cnt p (locs (x :: R)) = cnt p (rws x.1) + cnt p (locs R) := cnt_app _ _
          omega
        refine ⟨⟨?_, hR.1.2.1, fun k hk => ?_⟩, ih (f + 1) (fun p => by have := hc' p; omega) hR.2⟩
        · rw [hf.1 72 (by decide) (by decide) (by decide) (by decide)]; exact hR.1.1
        · rw [hf.1 69 (by decide) (by decide) (by decide) (by decide), hf.1 70 (by decide) (by decide) (by decide) (by decide), hf.1 71 (by decide) (by decide) (by decide) (by decide), hf.1 80 (by decide) (by decide) (by decide) (by decide)]
          refine ⟨(hR.1.2.2 k hk).1.mono (fun j hj e => hm j hj ?_), (hR.1.2.2 k hk).2⟩
          have : (x.1.getD k ((-1, 0, 0), 0)).1 ∈ rws x.1 := List.mem_map.mpr ⟨_, getD_mem (d := ((-1, 0, 0), 0)) _ k hk, rfl⟩
          have := cnt_in _ this e
          have := hc' j.2.1
          omega
    exact key FS 0 (fun p => by rw [cnt_flat]; omega) a4
  · intro b hb' j hj
    rw [hf.1 77 (by decide) (by decide) (by decide) (by decide)]
    exact a6 b hb' j hj
/-- THE REFERENCE'S SWEEP -/
theorem sweep_rr {t : Int} {d : Nat} {Q : Int → Mem → Prop} {v0 v : Mem} {n z dp : Nat} {en : Int} {J : Jb} {FS : List Fr} {ρ : Rho} (h : RX v0 n z dp en J FS ρ v) (hq : ∀ J' v', RX v0 n z dp en J' FS ρ v' → blk J' = rH ρ → SWf v v' → Q 0 v') : RR t d 232 [(2, 38)] v Q := by
  obtain ⟨a1, a2, a3, a4, a5, a6, a7⟩ := h
  obtain ⟨hg, g1, g2, g3⟩ := a1.2.1
  refine w_232 (sw1 g1 g2 (fun w1 e1 m1 => ?_) hg 0 v (by omega) (fun _ _ => rfl) (fun i hi => absurd hi (Nat.not_lt_zero _)))
  refine sw2 a1 a3 (fun w2 e2 m2 => ?_) (tmps FS).length 0 w1 (by omega) e1 (fun j hj => by rw [m1 j.1 (g3 j hj), List.take_zero]; rfl)
  refine sw4 (n := n) (F := FS.length) a1 a5.1.1 (by have := a5.1.2.2; omega) FS 0 _ w2 (by omega) a4 e2 m2 (fun w3 e3 m3 => ?_)
  have m3 : MKr w3 J (flat FS) := fun j hj => by
    have e : cnt j.2.1 (rws (tmps FS) ++ locs FS) = cnt j.2.1 (flat FS) := by rw [cnt_app, cnt_flat]
    have := m3 j hj
    rw [e] at this
    exact this
  have h3 : RHb w3 z J := a1.same (by rw [e3 38 (by decide)]) (by rw [e3 38 (by decide)]) (by rw [e3 38 (by decide)]) (fun c hc => e3 c (by omega))
  refine sw6 g2 hg 0 J w3 (by omega) (by rw [e3 38 (by decide)]; exact g1) h3 m3 (fun j _ hlt => absurd hlt (Nat.not_lt_zero _)) (fun J' w4 h4 b4 k4 f4 => ?_)
  obtain ⟨hg', q1, -, -⟩ := h4.2.1
  refine sw7 hg' w4 q1 h4 (fun w5 h5 f5 => hq J' w5 ?_ (by rw [b4, ← a2]) ?_)
  · refine RX.swp ⟨a1, a2, a3, a4, a5, a6, a7⟩ h5 (by rw [b4, ← a2]) k4 ?_
    exact SWf.trans ⟨fun c c1 c2 c3 c4 => e3 c c3, fun k k1 k2 => by rw [e3 38 (by decide)]⟩ (f4.trans f5)
  · exact SWf.trans ⟨fun c c1 c2 c3 c4 => e3 c c3, fun k k1 k2 => by rw [e3 38 (by decide)]⟩ (f4.trans f5)
