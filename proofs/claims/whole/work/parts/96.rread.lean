/-! The reference: read(). -/
theorem ps_far {b : Nat → Int} {n : Nat} : ∀ i, i ≤ ps (uB b n) n i ∨ ps (uB b n) n i = n := by
  intro i
  induction i with
  | zero => exact Or.inl (Nat.zero_le _)
  | succ i ih =>
    have e : ps (uB b n) n (i + 1) = en isBl (uB b n) n (toC (uB b n) n (ps (uB b n) n i)) := rfl
    have hm := ps_mono (b := b) (n := n) 1 i
    have hl := ps_le (b := b) (n := n) (i + 1)
    rcases Nat.lt_or_eq_of_le (ps_le (b := b) (n := n) i) with h | h
    · have h1 := toC_adv (b := b) h
      have h2 := (en_b (p := isBl) (u := uB b n) h1.2).1
      rw [← e] at h2
      omega
    · omega
theorem kd_end {b : Nat → Int} {n : Nat} : kd (uB b n) n n = 0 := by
  have h : ps (uB b n) n n = n := by
    have h1 := ps_le (b := b) (n := n) n
    rcases ps_far (b := b) (n := n) n with h | h
    · omega
    · exact h
  unfold kd
  rw [h, word_end]
theorem PPr_u {b : Nat → Int} {n : Nat} (hn : n ≤ 3000) : ∃ r, PPr (kd (uB b n) n) 70000 21 0 0 0 = some r := PPr_some kd_end (by omega)
/-- the text holds a PROGRAM without a fault -/
def GOOD (u : Nat → Int) (n : Nat) (l : List FnT) : Prop := n ≤ 3000 ∧ PPr (kd u n) 70000 21 0 0 0 = some (.ok l) ∧ nfG u n (l.map (fnOf u n)) 0 l = [] ∧ HM (l.map (fnOf u n)) ∧ tfG u n (l.map (fnOf u n)) l = []
/-- what read answers, and the place -/
def RD (u : Nat → Int) (n : Nat) (x p : Int) : Prop := (3000 < n ∧ x = 1 ∧ p = 3000) ∨ (n ≤ 3000 ∧ ∃ j, PPr (kd u n) 70000 21 0 0 0 = some (.error j) ∧ x = 1 ∧ p = (ps u n j : Nat)) ∨
  (n ≤ 3000 ∧ ∃ l, PPr (kd u n) 70000 21 0 0 0 = some (.ok l) ∧ ((∃ q r, nfG u n (l.map (fnOf u n)) 0 l = q :: r ∧ x = 2 ∧ p = (q : Nat)) ∨ (nfG u n (l.map (fnOf u n)) 0 l = [] ∧ ¬ HM (l.map (fnOf u n)) ∧ x = 2 ∧ p = (n : Nat)) ∨ (nfG u n (l.map (fnOf u n)) 0 l = [] ∧ HM (l.map (fnOf u n)) ∧ ∃ q r, tfG u n (l.map (fnOf u n)) l = q :: r ∧ x = 3 ∧ p = q))) ∨
  (∃ l, GOOD u n l ∧ x = 0 ∧ p = -1)
theorem RD_u {u : Nat → Int} {n : Nat} {x p x' p' : Int} (h : RD u n x p) (h' : RD u n x' p') : x = x' ∧ p = p' := by
  rcases h with ⟨a1, a2, a3⟩ | ⟨a1, j, a2, a3, a4⟩ | ⟨a1, l, a2, a3⟩ | ⟨l, ⟨a1, a2, g1, g2, g3⟩, a3, a4⟩
  · rcases h' with ⟨b1, b2, b3⟩ | ⟨b1, -⟩ | ⟨b1, -⟩ | ⟨l', ⟨b1, -⟩, -⟩
    · omega
    · omega
    · omega
    · omega
  · rcases h' with ⟨b1, -⟩ | ⟨b1, j', b2, b3, b4⟩ | ⟨b1, l', b2, b3⟩ | ⟨l', ⟨b1, b2, -⟩, -⟩
    · omega
    · rw [a2] at b2
      cases b2
      exact ⟨a3.trans b3.symm, a4.trans b4.symm⟩
    · rw [a2] at b2
      cases b2
    · rw [a2] at b2
      cases b2
  · rcases h' with ⟨b1, -⟩ | ⟨b1, j', b2, b3, b4⟩ | ⟨b1, l', b2, b3⟩ | ⟨l', ⟨b1, b2, g1, g2, g3⟩, -⟩
    · omega
    · rw [a2] at b2
      cases b2
    · rw [a2] at b2
      cases b2
      rcases a3 with ⟨q, r, c1, c2, c3⟩ | ⟨c1, c2, c3, c4⟩ | ⟨c1, c2, q, r, c3, c4, c5⟩
      · rcases b3 with ⟨q', r', d1, d2, d3⟩ | ⟨d1, -⟩ | ⟨d1, -⟩
        · rw [c1] at d1
          cases d1
          exact ⟨c2.trans d2.symm, c3.trans d3.symm⟩
        · rw [c1] at d1; cases d1
        · rw [c1] at d1; cases d1
      · rcases b3 with ⟨q', r', d1, d2, d3⟩ | ⟨d1, d2, d3, d4⟩ | ⟨d1, d2, -⟩
        · rw [c1] at d1; cases d1
        · exact ⟨c3.trans d3.symm, c4.trans d4.symm⟩
        · exact absurd d2 c2
      · rcases b3 with ⟨q', r', d1, d2, d3⟩ | ⟨d1, d2, d3, d4⟩ | ⟨d1, d2, q', r', d3, d4, d5⟩
        · rw [c1] at d1; cases d1
        · exact absurd c2 d2
        · rw [c3] at d3
          cases d3
          exact ⟨c4.trans d4.symm, c5.trans d5.symm⟩
    · rw [a2] at b2
      cases b2
      rcases a3 with ⟨q, r, c1, c2, c3⟩ | ⟨c1, c2, c3, c4⟩ | ⟨c1, c2, q, r, c3, c4, c5⟩
      · rw [c1] at g1; cases g1
      · exact absurd g2 c2
      · rw [c3] at g3; cases g3
  · rcases h' with ⟨b1, -⟩ | ⟨b1, j', b2, b3, b4⟩ | ⟨b1, l', b2, b3⟩ | ⟨l', -, b3, b4⟩
    · omega
    · rw [a2] at b2
      cases b2
    · rw [a2] at b2
      cases b2
      rcases b3 with ⟨q, r, c1, c2, c3⟩ | ⟨c1, c2, c3, c4⟩ | ⟨c1, c2, q, r, c3, c4, c5⟩
      · rw [c1] at g1; cases g1
      · exact absurd g2 c2
      · rw [c3] at g3; cases g3
    · exact ⟨a3.trans b3.symm, a4.trans b4.symm⟩
theorem RD_good {u : Nat → Int} {n : Nat} {p : Int} (h : RD u n 0 p) : ∃ l, GOOD u n l := by
  rcases h with ⟨a1, a2, a3⟩ | ⟨a1, j, a2, a3, a4⟩ | ⟨a1, l, a2, a3⟩ | ⟨l, g, -⟩
  · exact absurd a2 (by decide)
  · exact absurd a3 (by decide)
  · rcases a3 with ⟨q, r, c1, c2, c3⟩ | ⟨c1, c2, c3, c4⟩ | ⟨c1, c2, q, r, c3, c4, c5⟩
    · exact absurd c2 (by decide)
    · exact absurd c3 (by decide)
    · exact absurd c4 (by decide)
  · exact ⟨l, g⟩
theorem GOOD_u {u : Nat → Int} {n : Nat} {l l' : List FnT} (h : GOOD u n l) (h' : GOOD u n l') : l = l' := by
  have := h.2.1.symm.trans h'.2.1
  cases this
  rfl
/-- the fields 38 .. 41 stay at least 0 -/
def NN0 (v v' : Mem) : Prop := (∀ k, 38 ≤ k → k ≤ 41 → 0 ≤ v 38 k) → ∀ k, 38 ≤ k → k ≤ 41 → 0 ≤ v' 38 k
theorem NN0.eq {v v' : Mem} (h : ∀ k, 38 ≤ k → k ≤ 41 → v' 38 k = v 38 k) : NN0 v v' := fun q k h1 h2 => by rw [h k h1 h2]; exact q k h1 h2
/-- while the reference reads -/
def MidF (v v' : Mem) : Prop := (∀ c, (c < 41 ∨ 65 < c) → c ≠ 38 → v' c = v c) ∧ (∀ k, ¬ (5 ≤ k ∧ k ≤ 6) → ¬ (8 ≤ k ∧ k ≤ 13) → k ≠ 22 → k ≠ 31 → ¬ (38 ≤ k ∧ k ≤ 42) → ¬ (46 ≤ k ∧ k ≤ 47) → v' 38 k = v 38 k) ∧ NN0 v v'
theorem MidF.trans {v v1 v2 : Mem} (h : MidF v v1) (h' : MidF v1 v2) : MidF v v2 := ⟨fun c a b => (h'.1 c a b).trans (h.1 c a b), fun k a b c d e f => (h'.2.1 k a b c d e f).trans (h.2.1 k a b c d e f), fun q => h'.2.2 (h.2.2 q)⟩
theorem MidF.ffr {v v' : Mem} (hnn : NNr v v' → NN0 v v') (h : FFr 0 0 0 v v') : MidF v v' := ⟨fun c a b => funext fun k => h.1 c k b (by omega), fun k a b c d e f => h.2.1 k (by omega), hnn h.2.2⟩
/-- a PROGRAM is there, as the reference holds it -/
def RLD (v : Mem) (u : Nat → Int) (n : Nat) (l : List FnT) : Prop := (∃ st' nd' : Nat, RPr2 v u n (l.map (fnOf u n)) l 0 0 0 l.length st' nd' ∧ st' ≤ 300 ∧ nd' ≤ 3300) ∧ v 38 13 = (l.length : Nat) ∧ l.length ≤ 20 ∧ v 38 46 = fno (l.map (fnOf u n)) 660205 ∧ v 38 3 = (n : Nat) ∧ TXT 40 v n ∧ uB (v 40) n = u
/-- what read leaves alone -/
def RFr (n : Nat) (v v' : Mem) : Prop := (∀ c, (c < 40 ∨ 65 < c) → c ≠ 38 → v' c = v c) ∧ (∀ k, k ≠ 1 → ¬ (3 ≤ k ∧ k ≤ 13) → k ≠ 22 → k ≠ 31 → ¬ (38 ≤ k ∧ k ≤ 42) → ¬ (46 ≤ k ∧ k ≤ 48) → v' 38 k = v 38 k) ∧ (v' 38 1 = 0 ∧ v' 38 3 = (n : Nat) ∧ v' 38 4 = 1 ∧ v' 38 7 = 0 ∧ v' 38 48 = 0) ∧ ((∀ k, 38 ≤ k → k ≤ 41 → 0 ≤ v 38 k) → ∀ k, 38 ≤ k → k ≤ 41 → 0 ≤ v' 38 k)
theorem copy_lp {t : Int} {d n : Nat} {Q : Int → Mem → Prop} (hn : n ≤ 3200) : ∀ (m k : Nat) (v : Mem), k + m = n → v 38 3 = (n : Nat) → (∀ j, j < n → -128 ≤ v 39 j ∧ v 39 j < 128) → (∀ j, j < k → v 40 j = v 39 j) → (∀ v', (∀ c j, c ≠ 40 → v' c j = v c j) → (∀ j, j < n → v' 40 j = v 39 j) → LL t (d + 1) 229 15 [(2, 38), (0, (n : Int))] [] v' Q) → LL t (d + 1) 229 15 [(2, 38), (0, (k : Int))] [] v Q := by
  intro m
  induction m with
  | zero =>
    intro k v hk h3 hb hc hq
    have hk : k = n := by omega
    subst hk
    exact hq v (fun _ _ _ => rfl) hc
  | succ m ih =>
    intro k v hk h3 hb hc hq
    refine s_229_15 ?_
    rw [h3, wS (k := k) (m := 3200) (by omega) (by decide), Int.toNat_natCast, w8_id (hb k (by omega)).1 (hb k (by omega)).2]
    refine ⟨fun _ => ⟨⟨by omega, by omega⟩, ⟨by omega, by omega⟩, ?_⟩, fun c => absurd (by omega) c⟩
    refine ih (k + 1) _ (by omega) h3 hb (fun j hj => ?_) (fun v' g1 g2 => hq v' (fun c j hc => (g1 c j hc).trans (by rw [up_ne hc])) g2)
    by_cases e : j = k
    · subst e; rw [up_k]; rfl
    · rw [up_nk e]; exact hc j (by omega)
theorem read_rr {t : Int} {d n : Nat} {v : Mem} {Q : Int → Mem → Prop} {u : Nat → Int} (hd : 563 ≤ d) (hn : n ≤ 3200) (h1 : v 38 1 = (n : Nat)) (hb : ∀ j, j < n → -128 ≤ v 39 j ∧ v 39 j < 128) (hu : uB (v 39) n = u) (h38 : ∀ k, 38 ≤ k → k ≤ 41 → 0 ≤ v 38 k)
    (hq : ∀ v', RD u n (v' 38 5) (v' 38 6) → RFr n v v' → (v' 38 5 = 0 → ∃ l, GOOD u n l ∧ RLD v' u n l) → Q (v' 38 5) v') : RR t d 229 [(2, 38)] v Q := by
  have hnn : ∀ v v' : Mem, NNr v v' → NN0 v v' := fun _ _ h => h.1
  have hp6 : ∀ v v' : Mem, FFr 0 0 0 v v' → v' 38 5 = 0 → v' 38 6 = v 38 6 := fun _ _ h e => (h.2.2.2 e).2
  obtain ⟨d', rfl⟩ : ∃ d', d = d' + 1 := ⟨d - 1, by omega⟩
  refine w_229 ?_
  rw [h1]
  refine copy_lp hn n 0 _ (Nat.zero_add _) rfl hb (fun j hj => absurd hj (Nat.not_lt_zero _)) (fun w g1 g2 => ?_)
  refine s_229_15 ?_
  have w3 : w 38 3 = (n : Nat) := by rw [g1 38 3 (by decide), up_k]
  rw [w3]
  refine ⟨fun c => absurd c (by omega), fun _ => ?_⟩
  -- the memory as parse begins
  obtain ⟨w0, hw0⟩ : ∃ w0, up (up (up (up (up w 38 1 0) 38 4 1) 38 48 0) 38 5 0) 38 6 (-1) = w0 := ⟨_, rfl⟩
  rw [hw0]
  have ec : ∀ c k, c ≠ 38 → w0 c k = w c k := fun c k hc => by rw [← hw0, upc_ne (by omega), upc_ne (by omega), upc_ne (by omega), upc_ne (by omega), upc_ne (by omega)]
  have ek : ∀ k, k ≠ 1 → k ≠ 4 → k ≠ 5 → k ≠ 6 → k ≠ 48 → w0 38 k = w 38 k := fun k a b c e f => by rw [← hw0, up_nk (by omega), up_nk (by omega), up_nk (by omega), up_nk (by omega), up_nk (by omega)]
  have wk : ∀ k, k ≠ 3 → k ≠ 7 → w 38 k = v 38 k := fun k a b => by rw [g1 38 k (by decide), up_nk (by omega), up_nk (by omega)]
  have e5 : w0 38 5 = 0 := by rw [← hw0]; rfl
  have e6 : w0 38 6 = -1 := by rw [← hw0]; rfl
  have e1 : w0 38 1 = 0 := by rw [← hw0]; rfl
  have e4 : w0 38 4 = 1 := by rw [← hw0]; rfl
  have e48 : w0 38 48 = 0 := by rw [← hw0]; rfl
  have e3 : w0 38 3 = (n : Nat) := by rw [ek 3 (by decide) (by decide) (by decide) (by decide) (by decide)]; exact w3
  have e7 : w0 38 7 = 0 := by
    rw [ek 7 (by decide) (by decide) (by decide) (by decide) (by decide), g1 38 7 (by decide), up_nk (by decide), up_k]
  have e40 : ∀ j, j < n → w0 40 j = v 39 j := fun j hj => by rw [ec 40 j (by decide)]; exact g2 j hj
  have hu0 : uB (w0 40) n = u := by
    rw [← hu]
    funext k
    unfold uB
    by_cases hk : k < n
    · rw [if_pos hk, if_pos hk, e40 k hk]
    · rw [if_neg hk, if_neg hk]
  have ht0 : TXT 40 w0 n := ⟨hn, fun k hk => by rw [e40 k hk]; exact hb k hk⟩
  have n0 : ∀ k, 38 ≤ k → k ≤ 41 → 0 ≤ w0 38 k := fun k a b => by
    rw [ek k (by omega) (by omega) (by omega) (by omega) (by omega), wk k (by omega) (by omega)]
    exact h38 k a b
  -- what is left alone, in the end
  have fin : ∀ v', MidF w0 v' → RFr n v v' := by
    intro v' f
    refine ⟨fun c a b => ?_, fun k a b c e f' g => ?_, ⟨?_, ?_, ?_, ?_, ?_⟩, fun _ => f.2.2 n0⟩
    · rw [f.1 c (by omega) b]
      funext k
      rw [ec c k b, g1 c k (by omega), upc_ne (by omega), upc_ne (by omega)]
    · rw [f.2.1 k (by omega) (by omega) c e f' (by omega), ek k a (by omega) (by omega) (by omega) (by omega), wk k (by omega) (by omega)]
    · rw [f.2.1 1 (by omega) (by omega) (by omega) (by omega) (by omega) (by omega)]; exact e1
    · rw [f.2.1 3 (by omega) (by omega) (by omega) (by omega) (by omega) (by omega)]; exact e3
    · rw [f.2.1 4 (by omega) (by omega) (by omega) (by omega) (by omega) (by omega)]; exact e4
    · rw [f.2.1 7 (by omega) (by omega) (by omega) (by omega) (by omega) (by omega)]; exact e7
    · rw [f.2.1 48 (by omega) (by omega) (by omega) (by omega) (by omega) (by omega)]; exact e48
  obtain ⟨sg', hsg⟩ : ∃ a : Nat, w0 38 39 = a := ⟨(w0 38 39).toNat, by have := n0 39 (by omega) (by omega); omega⟩
  obtain ⟨nb', hnb⟩ : ∃ a : Nat, w0 38 38 = a := ⟨(w0 38 38).toNat, by have := n0 38 (by omega) (by omega); omega⟩
  obtain ⟨dp', hdp⟩ : ∃ a : Nat, w0 38 40 = a := ⟨(w0 38 40).toNat, by have := n0 40 (by omega) (by omega); omega⟩
  obtain ⟨sc', hsc⟩ : ∃ a : Nat, w0 38 41 = a := ⟨(w0 38 41).toNat, by have := n0 41 (by omega) (by omega); omega⟩
  refine parse_rr (F := 70000) (g := 21) (by omega) e3 ht0 e5 hsg hnb hdp hsc (fun hbig v2 c1 c2 c3 => ?_) (fun hsm => ?_)
  · refine ⟨fun z => ?_, fun _ => ⟨fun z => ?_, fun _ => ?_⟩⟩
    · rw [c1] at z; exact absurd z (by decide)
    · rw [c1] at z; exact absurd z (by decide)
    · refine hq v2 (Or.inl ⟨hbig, c1, c2⟩) (fin v2 (MidF.ffr (hnn _ _) c3)) (fun z => ?_)
      rw [c1] at z; exact absurd z (by decide)
  · obtain ⟨r, hr⟩ := PPr_u (b := w0 40) hsm
    refine ⟨r, hr, fun v1 f1 e1' => ?_⟩
    rw [hu0] at hr ⊢
    match r, hr with
    | .error j, hr =>
      intro v2 c1 c2
      have f2 := f1.trans c2 (Nat.le_refl _) (Nat.le_refl _) (Nat.le_refl _)
      refine ⟨fun z => ?_, fun _ => ⟨fun z => ?_, fun _ => ?_⟩⟩
      · rw [c1.1] at z; exact absurd z (by decide)
      · rw [c1.1] at z; exact absurd z (by decide)
      · refine hq v2 (Or.inr (Or.inl ⟨hsm, j, hr, c1.1, c1.2⟩)) (fin v2 (MidF.ffr (hnn _ _) f2)) (fun z => ?_)
        rw [c1.1] at z; exact absurd z (by decide)
    | .ok l, hr =>
      intro v2 fi' st' nd' hR h13 h22 h31 h5 hf20 hs300 hn3200 c2
      have f2 := f1.trans c2 (Nat.le_refl _) (Nat.le_refl _) (Nat.le_refl _)
      have hfi := (RPr_le _ _ _ _ _ _ _ hR).1
      rw [Nat.zero_add] at hfi
      subst hfi
      have hw := PPr_wf _ _ _ _ _ hr
      have hty := PPr_ty _ _ _ _ _ hr
      have m2 := MidF.ffr (hnn _ _) f2
      have e40' : v2 40 = w0 40 := m2.1 40 (by omega) (by decide)
      have ht2 : TXT 40 v2 n := by unfold TXT at *; rw [e40']; exact ht0
      have hu2 : uB (v2 40) n = u := by rw [e40']; exact hu0
      have h32 : v2 38 3 = (n : Nat) := by rw [m2.2.1 3 (by omega) (by omega) (by omega) (by omega) (by omega) (by omega)]; exact e3
      have h62 : v2 38 6 = -1 := by rw [hp6 _ _ f2 h5]; exact e6
      have mNF : ∀ v4, NFi v2 v4 → MidF w0 v4 := fun v4 f => m2.trans ⟨fun c a b => f.1 c b (by omega) (by omega) (by omega), fun k a b c e f' g => f.2 k (by omega) (by omega) (by omega) (by omega), NN0.eq (fun k a b => f.2 k (by omega) (by omega) (by omega) (by omega))⟩
      refine ⟨fun _ => ?_, fun z => absurd h5 z⟩
      refine names_rr hR hw ht2 hu2 h32 h13 hf20 hs300 (by omega) (by omega) (fun p r' hnf v4 c3 c4 c5 => ⟨fun z => ?_, fun _ => ?_⟩) (fun hnf hm v4 c3 c4 c5 => ⟨fun z => ?_, fun _ => ?_⟩) (fun hnf hm v4 c3 c4 c5 c6 c7 => ⟨fun _ => ?_, fun z => absurd (c5.trans h5) z⟩)
      · rw [c3] at z; exact absurd z (by decide)
      · refine hq v4 (Or.inr (Or.inr (Or.inl ⟨hsm, l, hr, Or.inl ⟨p, r', hnf, c3, c4⟩⟩))) (fin v4 (mNF v4 c5)) (fun z => ?_)
        rw [c3] at z; exact absurd z (by decide)
      · rw [c3] at z; exact absurd z (by decide)
      · refine hq v4 (Or.inr (Or.inr (Or.inl ⟨hsm, l, hr, Or.inr (Or.inl ⟨hnf, hm, c3, c4⟩)⟩))) (fin v4 (mNF v4 c5)) (fun z => ?_)
        rw [c3] at z; exact absurd z (by decide)
      · have m4 := mNF v4 c7
        have h13' : v4 38 13 = (l.length : Nat) := by rw [c7.2 13 (by omega) (by omega) (by omega) (by omega)]; exact h13
        refine types_rr c3 hw hty h13' (c5.trans h5) hf20 hs300 (by omega) (by omega) hnf (fun htf v6 c8 => ?_) (fun p r' htf v6 c8 c9 d1 => ?_)
        · have m6 : MidF w0 v6 := m4.trans ⟨fun c a b => funext fun k => c8 c k (by omega) (by omega), fun k a b c e f' g => c8 38 k (by omega) (by omega), NN0.eq (fun k a b => c8 38 k (by omega) (by omega))⟩
          have x5 : v6 38 5 = 0 := by rw [c8 38 5 (by omega) (by omega), c5]; exact h5
          have x6 : v6 38 6 = -1 := by rw [c8 38 6 (by omega) (by omega), c6]; exact h62
          have hg : GOOD u n l := ⟨hsm, hr, hnf, hm, htf⟩
          have y40 : v6 40 = w0 40 := m6.1 40 (by omega) (by decide)
          refine hq v6 (Or.inr (Or.inr (Or.inr ⟨l, hg, x5, x6⟩))) (fin v6 m6) (fun _ => ⟨l, hg, ⟨st', nd', RPr2_same (fun c k a b => c8 c k (by omega) (by omega)) l _ _ _ _ _ _ hw c3, hs300, by omega⟩, ?_, hf20, ?_, ?_, ?_, ?_⟩)
          · rw [c8 38 13 (by omega) (by omega)]; exact h13'
          · rw [c8 38 46 (by omega) (by omega)]; exact c4
          · rw [m6.2.1 3 (by omega) (by omega) (by omega) (by omega) (by omega) (by omega)]; exact e3
          · unfold TXT at *; rw [y40]; exact ht0
          · rw [y40]; exact hu0
        · refine hq v6 (Or.inr (Or.inr (Or.inl ⟨hsm, l, hr, Or.inr (Or.inr ⟨hnf, hm, p, r', htf, c8, c9⟩)⟩))) (fin v6 (m4.trans ⟨fun c a b => funext fun k => d1 c k (by omega) (by omega) (by omega) (by omega), fun k a b c e f' g => d1 38 k (by omega) (by omega) (by omega) (by omega), NN0.eq (fun k a b => d1 38 k (by omega) (by omega) (by omega) (by omega))⟩)) (fun z => ?_)
          rw [c8] at z; exact absurd z (by decide)
