/-! The reference: the NAMES of a PROGRAM. -/
def RPr2 (v : Mem) (u : Nat → Int) (n : Nat) (G : Fn) : List FnT → Nat → Nat → Nat → Nat → Nat → Nat → Prop
  | [], fi, st, nd, fi', st', nd' => fi = fi' ∧ st = st' ∧ nd = nd'
  | q :: l, fi, st, nd, fi', st', nd' => ∃ st1 nd1 : Nat, st ≤ st1 ∧ nd ≤ nd1 ∧ RF2 v u n G q fi st st1 nd nd1 ∧ RPr2 v u n G l (fi + 1) st1 nd1 fi' st' nd'
theorem RS_le {v : Mem} {u : Nat → Int} {n : Nat} : ∀ (N : Nat) (b : Jvm.Term), SizeOf.sizeOf b < N → ∀ (lo hi nlo nhi : Nat) (x : Int), RS v u n b lo hi nlo nhi x → lo ≤ hi ∧ nlo ≤ nhi := by
  intro N
  induction N with
  | zero => intro e he; exact absurd he (Nat.not_lt_zero _)
  | succ N ih =>
    intro b he lo hi nlo nhi x q
    unfold RS at q
    split at q
    · exact ⟨q.1, q.2.1⟩
    · exact ⟨q.1, q.2.1⟩
    · obtain ⟨m, m1, n1, n2, n3, X, q0, q1, q2, q3, q4, q5, q6, q7, q8, -⟩ := q
      omega
    · exact q.elim
theorem RPr_le {v : Mem} {u : Nat → Int} {n : Nat} : ∀ (l : List FnT) (fi st nd fi' st' nd' : Nat), RPr v u n l fi st nd fi' st' nd' → fi + l.length = fi' ∧ st ≤ st' ∧ nd ≤ nd' := by
  intro l
  induction l with
  | nil => intro fi st nd fi' st' nd' h; obtain ⟨h1, h2, h3⟩ := h; rw [List.length_nil]; omega
  | cons q l ih =>
    intro fi st nd fi' st' nd' h
    obtain ⟨st1, nd1, h1, h2, h3⟩ := h
    have a1 := ih _ _ _ _ _ _ h3
    have a2 := RS_le _ _ (Nat.lt_succ_self _) _ _ _ _ _ h2.2.2.2.2.2
    rw [List.length_cons]
    omega
theorem RF1.ns {v v' : Mem} {u : Nat → Int} {n i : Nat} {pl : List (Nat × Int)} {ty : Int} {b : Jvm.Term} {fi st st' nd nd' lo hi nlo nhi m : Nat} (h : RF1 v u n i pl ty b fi st st' nd nd') (hl : pl.length ≤ 6) (f : NS lo hi nlo nhi m v v') (hs : st' ≤ lo ∨ hi ≤ st) (hn : nd' ≤ nlo ∨ nhi ≤ nd) : RF1 v' u n i pl ty b fi st st' nd nd' := by
  obtain ⟨r1, r2, r3, r4, r5, r6⟩ := h
  refine ⟨?_, ?_, ?_, ?_, RPs_same _ 0 (by omega) (fun c x c1 c2 _ => f c x (by omega) (by omega) (by omega) (by omega)) r5, ?_⟩
  · rw [f 41 fi (by omega) (by omega) (by omega) (by omega)]; exact r1
  · rw [f 42 fi (by omega) (by omega) (by omega) (by omega)]; exact r2
  · rw [f 43 fi (by omega) (by omega) (by omega) (by omega)]; exact r3
  · rw [f 44 fi (by omega) (by omega) (by omega) (by omega)]; exact r4
  · rw [f 45 fi (by omega) (by omega) (by omega) (by omega)]; exact r6.ns f hs hn
theorem RPr.ns {v v' : Mem} {u : Nat → Int} {n : Nat} : ∀ (l : List FnT) (fi st nd fi' st' nd' lo hi nlo nhi m : Nat), RPr v u n l fi st nd fi' st' nd' → NS lo hi nlo nhi m v v' → hi ≤ st → nhi ≤ nd → RPr v' u n l fi st nd fi' st' nd' := by
  intro l
  induction l with
  | nil => intro fi st nd fi' st' nd' lo hi nlo nhi m h f hs hn; exact h
  | cons q l ih =>
    intro fi st nd fi' st' nd' lo hi nlo nhi m h f hs hn
    obtain ⟨st1, nd1, h1, h2, h3⟩ := h
    have a2 := RS_le _ _ (Nat.lt_succ_self _) _ _ _ _ _ h2.2.2.2.2.2
    exact ⟨st1, nd1, h1, h2.ns h1 f (Or.inr hs) (Or.inr hn), ih _ _ _ _ _ _ _ _ _ _ _ h3 f (by omega) (by omega)⟩
theorem RF2.ns {v v' : Mem} {u : Nat → Int} {n : Nat} {G : Fn} {q : FnT} {fi st st' nd nd' lo hi nlo nhi m : Nat} (h : RF2 v u n G q fi st st' nd nd') (hl : q.2.1.length ≤ 6) (f : NS lo hi nlo nhi m v v') (hs : st' ≤ lo ∨ hi ≤ st) (hn : nd' ≤ nlo ∨ nhi ≤ nd) : RF2 v' u n G q fi st st' nd nd' := by
  obtain ⟨r1, r2, r3, r4, r5, r6⟩ := h
  refine ⟨?_, ?_, ?_, ?_, RPs_same _ 0 (by omega) (fun c x c1 c2 _ => f c x (by omega) (by omega) (by omega) (by omega)) r5, ?_⟩
  · rw [f 41 fi (by omega) (by omega) (by omega) (by omega)]; exact r1
  · rw [f 42 fi (by omega) (by omega) (by omega) (by omega)]; exact r2
  · rw [f 43 fi (by omega) (by omega) (by omega) (by omega)]; exact r3
  · rw [f 44 fi (by omega) (by omega) (by omega) (by omega)]; exact r4
  · rw [f 45 fi (by omega) (by omega) (by omega) (by omega)]; exact r6.ns f hs hn
theorem nma_lp {t : Int} {u : Nat → Int} {n : Nat} {G : Fn} {d : Nat} {Q : Int → Mem → Prop} {fi' st' nd' : Nat} (hf : fi' ≤ 20) (hs : st' ≤ 300) (hn : nd' ≤ 3300) (hd : 100 ≤ d) : ∀ (l : List FnT) (fi st nd : Nat) (v : Mem), RPr v u n l fi st nd fi' st' nd' → (∀ q ∈ l, wfF (kd u n) q) → NG v u n G → v 38 13 = (fi' : Nat) →
    (nfG u n G fi l = [] → ∀ v', RPr2 v' u n G l fi st nd fi' st' nd' → NS st st' nd nd' 0 v v' → LL t (d + 1) 224 32 [(2, 38), (0, 0)] [] (up v' 38 46 (-1)) Q) → (∀ p r, nfG u n G fi l = p :: r → ∀ v', v' 38 5 = 2 → v' 38 6 = ((p : Nat) : Int) → NXS v v' → Q 0 v') → LL t (d + 1) 224 2 [(2, 38), (0, (fi : Int))] [] v Q := by
  intro l
  induction l with
  | nil =>
    intro fi st nd v h hw hN h13 hq1 hq2
    obtain ⟨h1, h2, h3⟩ := h
    refine s_224_2 ?_
    rw [h13]
    exact ⟨fun c => absurd c (by omega), fun _ => hq1 rfl v ⟨h1, h2, h3⟩ (NS.refl v)⟩
  | cons q l ih =>
    intro fi st nd v h hw hN h13 hq1 hq2
    have hle := RPr_le _ _ _ _ _ _ _ h
    rw [List.length_cons] at hle
    obtain ⟨st1, nd1, h1, h2, h3⟩ := h
    have hle2 := RPr_le _ _ _ _ _ _ _ h3
    have hle3 := RS_le _ _ (Nat.lt_succ_self _) _ _ _ _ _ h2.2.2.2.2.2
    have hnf : nfG u n G fi (q :: l) = nfF u n G fi q ++ nfG u n G (fi + 1) l := rfl
    rw [hnf] at hq1 hq2
    refine s_224_2 ?_
    rw [h13, wS (k := fi) (m := 21) (by omega) (by decide)]
    refine ⟨fun _ => nmf_rr (by omega) (hw q List.mem_cons_self) h2 hN (by omega) (by omega) (by omega) (fun h0 v1 c1 c2 => ⟨fun z => absurd z (by decide), fun _ => ?_⟩) (fun p r h0 v1 c1 c2 c3 => ⟨fun _ => hq2 p _ (by rw [h0]; rfl) v1 c1 c2 c3, fun z => absurd rfl z⟩), fun c => absurd (by omega) c⟩
    have e13 : v1 38 13 = v 38 13 := c2 38 13 (by omega) (by omega) (by omega) (by omega)
    refine ih (fi + 1) st1 nd1 v1 (RPr.ns _ _ _ _ _ _ _ _ _ _ _ _ h3 c2 (Nat.le_refl _) (Nat.le_refl _)) (fun q' hq' => hw q' (List.mem_cons_of_mem _ hq')) (hN.keep (fun c hc => funext fun k => c2 c k (by omega) (by omega) (by omega) (by omega)) e13) (by rw [e13]; exact h13) (fun h0' v2 c3 c4 => ?_) (fun p r h0' v2 c3 c4 c5 => hq2 p _ (by rw [h0, h0']; rfl) v2 c3 c4 (NXS.of c2 c5))
    exact hq1 (by rw [h0, h0']; rfl) v2 ⟨st1, nd1, hle3.1, hle3.2, c1.ns h1 c4 (Or.inl (Nat.le_refl _)) (Or.inl (Nat.le_refl _)), c3⟩ (c2.trans c4 (by omega) (by omega))
/-- FUNCTION k is main -/
def isM (G : Fn) (k : Nat) : Prop := (G.getD k (0, [], 0)).1 = 660205 ∧ (G.getD k (0, [], 0)).2.1.length = 0 ∧ (G.getD k (0, [], 0)).2.2 = 0
theorem mainw {t : Int} {d : Nat} {v : Mem} {Q : Int → Mem → Prop} {u : Nat → Int} {n i : Nat} (ht : TXT 40 v n) (hu : uB (v 40) n = u) (hi : kd u n i = 2) (hq : ∀ x, (¬ x = 0 ∧ ln u n i = 4 ↔ vl u n i = 660205) → Q x v) : RR t (d + 4) 187 [(2, 38), (0, (ps u n i : Int)), (0, w32 ((ps u n i : Int) + ln u n i)), (2, (-45)), (0, 0)] v Q := by
  obtain ⟨m, a1, a2, a3, a4, a5⟩ := nm_word hu.symm hi
  have hn := ht.1
  rw [a1, wNat (k := ps u n i + m) (by omega) (by omega)]
  refine w_187_s43 (isWord_lp (s := [109, 97, 105, 110]) (N := 4) rfl (a := 0) rfl (by omega) (by omega) (fun h => s_187_s43_3 h) m (ps u n i) 0 rfl (Nat.le_refl _) (by omega) (hq _ ?_))
  rw [a4, b2i_ne, isWB_iff]
  have e0 : (660205 : Int) = pklA 0 [109, 97, 105, 110] := by decide
  have hub : ∀ k, k < n → u k = v 40 k % 256 := fun k hk => by rw [← hu]; exact uB_in hk
  rw [e0]
  constructor
  · rintro ⟨h1, h2⟩
    have hm : m = 4 := by omega
    subst hm
    congr 1
    refine segU_eq rfl (fun j hj => ?_)
    have h3 := (h1 j hj).2
    rw [hub _ (by omega)]
    rw [Nat.zero_add] at h3
    rw [← h3]
    have : j = 0 ∨ j = 1 ∨ j = 2 ∨ j = 3 := by omega
    rcases this with e | e | e | e <;> (rw [e]; decide)
  · intro h
    have h1 := pkl_inj _ _ _ (Nat.le_refl _) a5 (by decide) h
    have hm : m = 4 := by
      have := congrArg List.length h1
      rw [segU_len] at this
      exact this
    subst hm
    refine ⟨fun j hj => ⟨by show 0 + j < 4; omega, ?_⟩, by omega⟩
    have h2 := segU_at (u := u) 4 (ps u n i) j hj
    rw [h1] at h2
    rw [Nat.zero_add, h2, hub _ (by omega)]
    have h3 := ht.2 (ps u n i + j) (by omega)
    have h4 : 0 ≤ v 40 (ps u n i + j) := by
      rw [hub _ (by omega)] at h2
      have : j = 0 ∨ j = 1 ∨ j = 2 ∨ j = 3 := by omega
      have h5 : v 40 (ps u n i + j) % 256 < 128 := by
        rw [← h2]
        rcases this with e | e | e | e <;> (rw [e]; decide)
      omega
    omega
/-- main is looked for -/
theorem main_lp {t : Int} {u : Nat → Int} {n : Nat} {G : Fn} {d : Nat} {Q : Int → Mem → Prop} : ∀ (m k : Nat) (v : Mem) (x : Int), k + m = G.length → NG v u n G → (∀ j, j < G.length → v 44 j = (G.getD j (0, [], 0)).2.2) → v 38 46 = x → ((x = -1 ∧ ∀ j, j < k → ¬ isM G j) ∨ ∃ j, j < k ∧ x = (j : Nat) ∧ isM G j) →
    (∀ (v' : Mem) (y : Int), (∀ c k, ¬ (c = 38 ∧ k = 46) → v' c k = v c k) → v' 38 46 = y → ((y = -1 ∧ ∀ j, j < G.length → ¬ isM G j) ∨ ∃ j, j < G.length ∧ y = (j : Nat) ∧ isM G j) → ((y < 0 → Q 0 (up (up v' 38 5 2) 38 6 (v' 38 3))) ∧ (¬ y < 0 → Q 0 v'))) → LL t (d + 5) 224 32 [(2, 38), (0, (k : Int))] [] v Q := by
  intro m
  induction m with
  | zero =>
    intro k v x hk hN h44 h46 hx hq
    refine s_224_32 (d := d + 4) ?_
    rw [hN.2.2.1]
    refine ⟨fun c => absurd c (by omega), fun _ => ?_⟩
    rw [h46]
    have hk : k = G.length := by omega
    subst hk
    exact hq v x (fun _ _ _ => rfl) h46 hx
  | succ m ih =>
    intro k v x hk hN h44 h46 hx hq
    obtain ⟨n1, n2, n3, n4, ⟨W, w1, w2⟩, n6⟩ := hN
    have hN : NG v u n G := ⟨n1, n2, n3, n4, ⟨W, w1, w2⟩, n6⟩
    obtain ⟨a1, a2, a3⟩ := w1 k (by omega)
    have a4 := w2 k (by omega)
    have g : 0 ≤ (k : Int) ∧ (k : Int) < 20 := ⟨by omega, by omega⟩
    -- the next row
    have go : ∀ y : Int, ((y = -1 ∧ ∀ j, j < k + 1 → ¬ isM G j) ∨ ∃ j, j < k + 1 ∧ y = (j : Nat) ∧ isM G j) → LL t (d + 5) 224 32 [(2, 38), (0, ((k + 1 : Nat) : Int))] [] (up v 38 46 y) Q := by
      intro y hy
      refine ih (k + 1) _ y (by omega) (hN.keep (fun c hc => up_ne (by omega)) (up_nk (by decide))) h44 up_k hy (fun v' z h1 h2 h3 => hq v' z (fun c j hc => (h1 c j hc).trans (upc_ne hc)) h2 h3)
    have stay : ¬ isM G k → LL t (d + 5) 224 32 [(2, 38), (0, ((k + 1 : Nat) : Int))] [] (up v 38 46 (v 38 46)) Q := by
      intro hm
      rw [h46]
      refine go x ?_
      rcases hx with ⟨e1, e2⟩ | ⟨j, e1, e2, e3⟩
      · refine Or.inl ⟨e1, fun j hj => ?_⟩
        rcases Nat.lt_succ_iff_lt_or_eq.mp hj with h | h
        · exact e2 j h
        · rw [h]; exact hm
      · exact Or.inr ⟨j, by omega, e2, e3⟩
    refine s_224_32 (d := d + 4) ?_
    rw [n3, Int.toNat_natCast, a1, a2, wS (k := k) (m := 20) (by omega) (by decide)]
    refine ⟨fun _ => ⟨g, g, g, mainw (d := d) n1 n2 a3 (fun z hz => ⟨fun c => stay (fun hm => ?_), fun c => ⟨g, ?_⟩⟩)⟩, fun c => absurd (by omega) c⟩
    · exact (hz.mpr (a4.trans hm.1)).1 c
    · rw [a2, n6 k (by omega), h44 k (by omega)]
      refine ⟨fun c4 => ⟨g, fun c5 => ⟨g, fun c6 => go k (Or.inr ⟨k, by omega, rfl, a4.symm.trans (hz.mp ⟨c, c4⟩), by omega, c6⟩), fun c6 => stay (fun hm => c6 hm.2.2)⟩, fun c5 => stay (fun hm => c5 (by rw [hm.2.1]; rfl))⟩, fun c4 => stay (fun hm => c4 (hz.mpr (a4.trans hm.1)).2)⟩
/-- without a fault of NAMES so far there is a main, or none -/
theorem main_u {G : Fn} (hu : ∀ k, k < G.length → fno G (G.getD k (0, [], 0)).1 = (k : Nat)) {y : Int} (h : (y = -1 ∧ ∀ j, j < G.length → ¬ isM G j) ∨ ∃ j, j < G.length ∧ y = (j : Nat) ∧ isM G j) : (HM G ∧ y = fno G 660205 ∧ ¬ y < 0) ∨ (¬ HM G ∧ y < 0) := by
  rcases h with ⟨e1, e2⟩ | ⟨j, e1, e2, e3⟩
  · refine Or.inr ⟨fun hm => ?_, by omega⟩
    rcases fno_r G 660205 with e | ⟨j, e, h1, h2⟩
    · exact hm.1 e
    · refine e2 j h1 ⟨h2, ?_, ?_⟩
      · have := hm.2.1
        unfold fnP at this
        rw [e, if_neg (by omega), Int.toNat_natCast] at this
        rw [this]; rfl
      · have := hm.2.2
        unfold fnT at this
        rw [e, if_neg (by omega), Int.toNat_natCast] at this
        exact this
  · have hj := hu j e1
    rw [e3.1] at hj
    refine Or.inl ⟨⟨by omega, ?_, ?_⟩, by omega, by omega⟩
    · unfold fnP
      rw [hj, if_neg (by omega), Int.toNat_natCast]
      exact List.eq_nil_of_length_eq_zero e3.2.1
    · unfold fnT
      rw [hj, if_neg (by omega), Int.toNat_natCast]
      exact e3.2.2
