/-! The reference: allNames. -/
theorem RPr_at {v : Mem} {u : Nat → Int} {n : Nat} : ∀ (l : List FnT) (fi st nd fi' st' nd' : Nat), RPr v u n l fi st nd fi' st' nd' → ∀ k, k < l.length → v 41 (fi + k) = ps u n ((l.getD k (0, [], 0, .null)).1 + 1) ∧ v 42 (fi + k) = ln u n ((l.getD k (0, [], 0, .null)).1 + 1) ∧ v 43 (fi + k) = ((l.getD k (0, [], 0, .null)).2.1.length : Nat) ∧ v 44 (fi + k) = (l.getD k (0, [], 0, .null)).2.2.1 := by
  intro l
  induction l with
  | nil => intro fi st nd fi' st' nd' h k hk; exact absurd hk (Nat.not_lt_zero _)
  | cons q l ih =>
    intro fi st nd fi' st' nd' h k hk
    obtain ⟨st1, nd1, h1, ⟨r1, r2, r3, r4, -⟩, h3⟩ := h
    cases k with
    | zero => exact ⟨r1, r2, r3, r4⟩
    | succ k =>
      have := ih _ _ _ _ _ _ h3 k (by rw [List.length_cons] at hk; omega)
      rw [show fi + (k + 1) = fi + 1 + k by omega]
      exact this
theorem getD_map {u : Nat → Int} {n : Nat} : ∀ (l : List FnT) (k : Nat), k < l.length → (l.map (fnOf u n)).getD k (0, [], 0) = fnOf u n (l.getD k (0, [], 0, .null)) := by
  intro l
  induction l with
  | nil => intro k hk; exact absurd hk (Nat.not_lt_zero _)
  | cons q l ih =>
    intro k hk
    cases k with
    | zero => rfl
    | succ k => exact ih k (by rw [List.length_cons] at hk; omega)
theorem getD_mem {α : Type} {d : α} : ∀ (l : List α) (k : Nat), k < l.length → l.getD k d ∈ l := by
  intro l k hk
  rw [List.getD_eq_getElem?_getD, List.getElem?_eq_getElem hk]
  exact List.getElem_mem hk
theorem nfG_u {u : Nat → Int} {n : Nat} {G : Fn} : ∀ (l : List FnT) (fi : Nat), nfG u n G fi l = [] → ∀ k, k < l.length → fno G (vl u n ((l.getD k (0, [], 0, .null)).1 + 1)) = ((fi + k : Nat) : Int) := by
  intro l
  induction l with
  | nil => intro fi h k hk; exact absurd hk (Nat.not_lt_zero _)
  | cons q l ih =>
    intro fi h k hk
    have h : nfF u n G fi q ++ nfG u n G (fi + 1) l = [] := h
    obtain ⟨h1, h2⟩ := List.append_eq_nil_iff.mp h
    cases k with
    | zero =>
      unfold nfF at h1
      have h3 := (List.append_eq_nil_iff.mp h1).1
      by_cases e : fno G (vl u n (q.1 + 1)) = (fi : Int)
      · exact e
      · rw [if_neg e] at h3
        cases h3
    | succ k =>
      have := ih (fi + 1) h2 k (by rw [List.length_cons] at hk; omega)
      rw [show fi + (k + 1) = fi + 1 + k by omega]
      exact this
/-- what allNames leaves alone -/
def NFi (v v' : Mem) : Prop := (∀ c, c ≠ 38 → c ≠ 56 → c ≠ 58 → ¬ (63 ≤ c ∧ c ≤ 65) → v' c = v c) ∧ ∀ k, k ≠ 5 → k ≠ 6 → k ≠ 42 → k ≠ 46 → v' 38 k = v 38 k
theorem names_rr {t : Int} {u : Nat → Int} {n : Nat} {l : List FnT} {st' nd' d : Nat} {v : Mem} {Q : Int → Mem → Prop} (hr : RPr v u n l 0 0 0 l.length st' nd') (hw : ∀ q ∈ l, wfF (kd u n) q) (ht : TXT 40 v n) (hu : uB (v 40) n = u) (h3 : v 38 3 = n) (h13 : v 38 13 = (l.length : Nat)) (hl : l.length ≤ 20) (hs : st' ≤ 300) (hn : nd' ≤ 3300) (hd : 101 ≤ d)
    (hq1 : ∀ p r, nfG u n (l.map (fnOf u n)) 0 l = p :: r → ∀ v', v' 38 5 = 2 → v' 38 6 = ((p : Nat) : Int) → NFi v v' → Q 0 v')
    (hq2 : nfG u n (l.map (fnOf u n)) 0 l = [] → ¬ HM (l.map (fnOf u n)) → ∀ v', v' 38 5 = 2 → v' 38 6 = ((n : Nat) : Int) → NFi v v' → Q 0 v')
    (hq3 : nfG u n (l.map (fnOf u n)) 0 l = [] → HM (l.map (fnOf u n)) → ∀ v', RPr2 v' u n (l.map (fnOf u n)) l 0 0 0 l.length st' nd' → v' 38 46 = fno (l.map (fnOf u n)) 660205 → v' 38 5 = v 38 5 → v' 38 6 = v 38 6 → NFi v v' → Q 0 v') : RR t d 224 [(2, 38)] v Q := by
  obtain ⟨d', rfl⟩ : ∃ d', d = d' + 5 := ⟨d - 5, by omega⟩
  have hG : (l.map (fnOf u n)).length = l.length := List.length_map _
  have hat := RPr_at l 0 0 0 _ _ _ hr
  have hN : NG v u n (l.map (fnOf u n)) := by
    refine ⟨ht, hu, by rw [hG]; exact h13, by rw [hG]; exact hl, ⟨fun k => (l.getD k (0, [], 0, .null)).1 + 1, fun k hk => ?_, fun k hk => ?_⟩, fun k hk => ?_⟩
    · rw [hG] at hk
      have := hat k hk
      rw [Nat.zero_add] at this
      exact ⟨this.1, this.2.1, (hw _ (getD_mem l k hk)).1⟩
    · rw [hG] at hk
      rw [getD_map l k hk]; rfl
    · rw [hG] at hk
      have := hat k hk
      rw [Nat.zero_add] at this
      rw [getD_map l k hk, this.2.2.1]
      show _ = ((((l.getD k (0, [], 0, .null)).2.1.map (fun p => p.2)).length : Nat) : Int)
      rw [List.length_map]
  refine w_224 ?_
  refine nma_lp (d := d' + 4) (fi' := l.length) (st' := st') (nd' := nd') hl hs hn (by omega) l 0 0 0 v hr hw hN h13 (fun h0 v1 c1 c2 => ?_) (fun p r h0 v1 c1 c2 c3 => hq1 p r h0 v1 c1 c2 ⟨fun c x1 x2 x3 x4 => funext fun k => c3 c k x2 x3 x4 (by omega), fun k x1 x2 x3 x4 => c3 38 k (by omega) (by omega) (by omega) (by omega)⟩)
  have f1 : ∀ c, 40 ≤ c → c ≤ 44 → v1 c = v c := fun c x1 x2 => funext fun k => c2 c k (by omega) (by omega) (by omega) (by omega)
  have f38 : ∀ k, k ≠ 42 → v1 38 k = v 38 k := fun k hk => c2 38 k (by omega) (by omega) (by omega) (by omega)
  refine main_lp (d := d') (l.map (fnOf u n)).length 0 (up v1 38 46 (-1)) (-1) (Nat.zero_add _) (hN.keep (fun c hc => by rw [up_ne (by omega)]; exact f1 c (by omega) (by omega)) (by rw [up_nk (by decide)]; exact f38 13 (by decide))) (fun j hj => ?_) up_k (Or.inl ⟨rfl, fun j hj => absurd hj (Nat.not_lt_zero _)⟩) (fun v2 y g1 g2 g3 => ?_)
  · rw [hG] at hj
    have := hat j hj
    rw [Nat.zero_add] at this
    rw [up_ne (by decide), f1 44 (by omega) (by omega), this.2.2.2, getD_map l j hj]
    rfl
  · have hun : ∀ k, k < (l.map (fnOf u n)).length → fno (l.map (fnOf u n)) ((l.map (fnOf u n)).getD k (0, [], 0)).1 = (k : Nat) := fun k hk => by
      rw [hG] at hk
      rw [getD_map l k hk]
      have := nfG_u l 0 h0 k hk
      rw [Nat.zero_add] at this
      exact this
    have g2c : ∀ c k, c ≠ 38 → v2 c k = v1 c k := fun c k hc => by rw [g1 c k (by omega), upc_ne (by omega)]
    have g2k : ∀ k, k ≠ 46 → v2 38 k = v1 38 k := fun k hk => by rw [g1 38 k (by omega), up_nk hk]
    have nf2 : NFi v v2 := by
      refine ⟨fun c x1 x2 x3 x4 => funext fun k => ?_, fun k x1 x2 x3 x4 => ?_⟩
      · rw [g2c c k x1]; exact c2 c k (by omega) (by omega) (by omega) (by omega)
      · rw [g2k k x4]; exact f38 k x3
    rcases main_u hun g3 with ⟨m1, m2, m3⟩ | ⟨m1, m2⟩
    · refine ⟨fun c => absurd c m3, fun _ => hq3 h0 m1 v2 ?_ (by rw [g2, m2]) ?_ ?_ nf2⟩
      · -- the rows stand
        have ff : NS 0 0 0 0 0 v1 v2 ∨ True := Or.inr trivial
        have key : ∀ (l' : List FnT) (fi st nd fi' st' nd' : Nat), (∀ q ∈ l', wfF (kd u n) q) → RPr2 v1 u n (l.map (fnOf u n)) l' fi st nd fi' st' nd' → RPr2 v2 u n (l.map (fnOf u n)) l' fi st nd fi' st' nd' := by
          intro l'
          induction l' with
          | nil => intro fi st nd fi' st' nd' _ h; exact h
          | cons q l' ih =>
            intro fi st nd fi' st' nd' hw' h
            obtain ⟨st1, nd1, e1, e2, ⟨r1, r2, r3, r4, r5, r6⟩, h3⟩ := h
            have hq6 := (hw' q List.mem_cons_self).2.1
            refine ⟨st1, nd1, e1, e2, ⟨?_, ?_, ?_, ?_, RPs_same _ 0 (by omega) (fun c x c1 c2 _ => g2c c x (by omega)) r5, ?_⟩, ih _ _ _ _ _ _ (fun q' hq' => hw' q' (List.mem_cons_of_mem _ hq')) h3⟩
            · rw [g2c 41 fi (by decide)]; exact r1
            · rw [g2c 42 fi (by decide)]; exact r2
            · rw [g2c 43 fi (by decide)]; exact r3
            · rw [g2c 44 fi (by decide)]; exact r4
            · rw [g2c 45 fi (by decide)]
              exact RS2_same _ _ (Nat.lt_succ_self _) _ _ _ _ _ _ (fun c k _ _ _ _ => g2c c k (by omega)) (fun c k _ _ _ _ => g2c c k (by omega)) r6
        exact key l 0 0 0 _ _ _ hw c1
      · rw [g2k 5 (by decide)]; exact f38 5 (by decide)
      · rw [g2k 6 (by decide)]; exact f38 6 (by decide)
    · refine ⟨fun _ => hq2 h0 m1 _ rfl ?_ ⟨fun c x1 x2 x3 x4 => ?_, fun k x1 x2 x3 x4 => ?_⟩, fun c => absurd m2 c⟩
      · rw [up_k, g2k 3 (by decide), f38 3 (by decide)]; exact h3
      · rw [up_ne x1, up_ne x1]; exact nf2.1 c x1 x2 x3 x4
      · rw [up_nk x2, up_nk x1]; exact nf2.2 k x1 x2 x3 x4
