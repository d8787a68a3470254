/-! The class's walk over a FUNCTION: its NAME, its PARAMETERS. -/
theorem gd1 {α : Type} {l : List α} {x d : α} {k : Nat} (h : k < l.length) : (l ++ [x]).getD k d = l.getD k d := by
  rw [List.getD_eq_getElem?_getD, List.getElem?_append_left h, ← List.getD_eq_getElem?_getD]
theorem gd2 {α : Type} {l : List α} {x d : α} : (l ++ [x]).getD l.length d = x := by
  rw [List.getD_eq_getElem?_getD, List.getElem?_append_right (Nat.le_refl _), Nat.sub_self]
  rfl
/-- the FUNCTIONS with this one: in the first walk it comes to them -/
def gcS (s : Int) (G0 G : Fn) (row : Int × List Int × Int) : Fn := if s = 0 then G0 ++ [row] else G
theorem FNS.new {v : Mem} {G0 : Fn} (h : FNS v G0) (hl : G0.length < 20) (nm : Int) : FNS (m_19 nm v) (G0 ++ [(nm, [], 0)]) ∧ (∀ c, (c < 1 ∨ 7 < c) → m_19 nm v c = v c) ∧ (∀ c k, (c = 6 ∨ c = 7) → k ≠ G0.length → m_19 nm v c k = v c k) := by
  have e : m_19 nm v = up (up (up (up (up (up v 2 G0.length nm) 3 G0.length 0) 5 G0.length 0) 6 G0.length 0) 7 G0.length 0) 1 6 ((G0.length + 1 : Nat) : Int) := by
    unfold m_19
    rw [h.1, if_neg (by omega), if_pos (by omega), Int.toNat_natCast, wS hl (by decide)]
  rw [e]
  refine ⟨⟨by rw [up_k, List.length_append]; rfl, by rw [List.length_append]; show G0.length + 1 ≤ 20; omega, fun k hk => ?_⟩, fun c hc => ?_, fun c k hc hk => ?_⟩
  · rw [List.length_append] at hk
    have hk : k < G0.length + 1 := hk
    by_cases hkl : k = G0.length
    · subst hkl
      rw [gd2]
      refine ⟨?_, ?_, by show 0 ≤ 6; omega, ?_, fun j hj => absurd hj (Nat.not_lt_zero _)⟩
      · rw [up_ne (by decide), up_ne (by decide), up_ne (by decide), up_ne (by decide), up_ne (by decide), up_k]
      · rw [up_ne (by decide), up_ne (by decide), up_ne (by decide), up_ne (by decide), up_k]; rfl
      · rw [up_ne (by decide), up_ne (by decide), up_ne (by decide), up_k]
    · rw [gd1 (by omega)]
      have h3 := h.2.2 k (by omega)
      rw [upc_ne (by omega), upc_ne (by omega), upc_ne (by omega), upc_ne (by omega), upc_ne (by omega), upc_ne (by omega), upc_ne (by omega), upc_ne (by omega), upc_ne (by omega), upc_ne (by omega), upc_ne (by omega), upc_ne (by omega), upc_ne (by omega), upc_ne (by omega), upc_ne (by omega), upc_ne (by omega), upc_ne (by omega), upc_ne (by omega)]
      exact h3
  · rw [up_ne (by omega), up_ne (by omega), up_ne (by omega), up_ne (by omega), up_ne (by omega), up_ne (by omega)]
  · rw [upc_ne (by omega), upc_ne (by omega), upc_ne (by omega), upc_ne (by omega), upc_ne (by omega), upc_ne (by omega)]
theorem FNS.par {v : Mem} {G0 : Fn} {nm t0 : Int} {P : List Int} (h : FNS v (G0 ++ [(nm, P, t0)])) (hP : P.length < 6) (ty : Int) : FNS (up (up v 4 (G0.length * 6 + P.length) ty) 3 G0.length ((P.length + 1 : Nat) : Int)) (G0 ++ [(nm, P ++ [ty], t0)]) := by
  obtain ⟨h1, h2, h3⟩ := h
  rw [List.length_append] at h1 h2 h3
  have h2 : G0.length + 1 ≤ 20 := h2
  refine ⟨by rw [up_ne (by decide), up_ne (by decide), List.length_append]; exact h1, by rw [List.length_append]; exact h2, fun k hk => ?_⟩
  rw [List.length_append] at hk
  have hk : k < G0.length + 1 := hk
  have h4 := h3 k hk
  by_cases hkl : k = G0.length
  · subst hkl
    rw [gd2] at h4 ⊢
    obtain ⟨b1, b2, b3, b4, b5⟩ := h4
    refine ⟨by rw [up_ne (by decide), up_ne (by decide)]; exact b1, ?_, ?_, by rw [up_ne (by decide), up_ne (by decide)]; exact b4, fun j hj => ?_⟩
    · rw [up_k]; show _ = (((P ++ [ty]).length : Nat) : Int); rw [List.length_append]; rfl
    · show (P ++ [ty]).length ≤ 6; rw [List.length_append]; show P.length + 1 ≤ 6; omega
    · have hj : j < (P ++ [ty]).length := hj
      rw [List.length_append] at hj
      have hj : j < P.length + 1 := hj
      rw [up_ne (by decide)]
      show _ = (P ++ [ty]).getD j 0
      by_cases hjl : j = P.length
      · subst hjl
        rw [up_k, gd2]
      · rw [up_nk (by omega), gd1 (by omega)]
        exact b5 j (by show j < P.length; omega)
  · rw [gd1 (by omega)] at h4 ⊢
    obtain ⟨b1, b2, b3, b4, b5⟩ := h4
    refine ⟨by rw [up_ne (by decide), up_ne (by decide)]; exact b1, by rw [up_nk hkl, up_ne (by decide)]; exact b2, b3, by rw [up_ne (by decide), up_ne (by decide)]; exact b4, fun j hj => ?_⟩
    rw [up_ne (by decide), up_nk (by omega)]
    exact b5 j hj
theorem FNS.typ {v : Mem} {G0 : Fn} {nm t0 : Int} {P : List Int} (h : FNS v (G0 ++ [(nm, P, t0)])) (ty : Int) : FNS (up v 5 G0.length ty) (G0 ++ [(nm, P, ty)]) := by
  obtain ⟨h1, h2, h3⟩ := h
  rw [List.length_append] at h1 h2 h3
  refine ⟨by rw [up_ne (by decide), List.length_append]; exact h1, by rw [List.length_append]; exact h2, fun k hk => ?_⟩
  rw [List.length_append] at hk
  have hk : k < G0.length + 1 := hk
  have h4 := h3 k hk
  by_cases hkl : k = G0.length
  · subst hkl
    rw [gd2] at h4 ⊢
    obtain ⟨b1, b2, b3, b4, b5⟩ := h4
    exact ⟨b1, b2, b3, up_k, b5⟩
  · rw [gd1 (by omega)] at h4 ⊢
    obtain ⟨b1, b2, b3, b4, b5⟩ := h4
    exact ⟨b1, b2, b3, by rw [up_nk hkl]; exact b4, b5⟩
/-- the NAME of a FUNCTION -/
theorem name_k {s t : Int} {u : Nat → Int} {n la i0 i st sc fi k mx d : Nat} {v0 v : Mem} {G : Fn} {L : Sc} {G0 : Fn} {a : Ac} {nf : List Nat} {tf : List Int} {Q : Int → Mem → Prop} (h : GP s v0 v u n la i0 i st sc fi k G L (if s = 0 then G0 else G) a nf tf mx) (hl : s = 0 → G0.length = fi) (hf : fi < 20)
    (hq1 : kd u n i = 2 → ∀ v', GP s v0 v' u n la i0 (i + 1) st sc fi (k + 1) G L (gcS s G0 G (vl u n i, [], 0)) a (nf ++ (if fno G (vl u n i) = fi then [] else [ps u n i])) tf mx → Q 0 v') (hq2 : ¬ kd u n i = 2 → ∀ v', CXp fi v0 v' u n la i → Q 0 v') : RR t (d + 2) 86 [(2, 22)] v Q := by
  have hcg := h.1.1
  refine s_86 (d := d) ⟨fun c => ?_, fun c => ?_⟩
  · have hs : s = 0 := by rw [← hcg.2.1.1]; exact c
    have hF : FNS v G0 := by have := h.2.2.1; rw [if_pos hs] at this; exact this
    obtain ⟨n1, n2, n3⟩ := hF.new (by have := hl hs; omega) (f_157 (v 22 10) v)
    have hl := hl hs
    rw [hl] at n3
    have g1 := h.tab n2 n3 n1 (fun e => by omega)
    rcases g1.expect (c := 2) (by omega) with ⟨k2, g2⟩ | ⟨k2, g2⟩
    · have hi := hcg.1.lt (by omega)
      rw [hcg.1.value hi] at g2 ⊢
      refine hq1 k2 _ ?_
      unfold gcS
      rw [if_pos hs]
      exact g2.eq (fun e => by omega) (fun e => by omega) (fun e => by omega) (fun e => by omega)
    · exact hq2 k2 _ g2
  · have hs : s = 1 := by
      rcases hcg.2.1.2.2 with e | e
      · exact absurd (hcg.2.1.1.trans e) c
      · exact e
    have hF : FNS v G := by have := h.2.2.1; rw [if_neg (by omega)] at this; exact this
    have hgc : ∀ row, gcS s G0 G row = G := fun row => by unfold gcS; rw [if_neg (by omega)]
    have h' : GP s v0 v u n la i0 i st sc fi k G L G a nf tf mx := by have := h; rw [if_neg (by omega)] at this; exact this
    refine ffind_rr (c := G.length) hF.1 hF.2.1 ?_
    by_cases k2 : kd u n i = 2
    · have hi := hcg.1.lt (by omega)
      rw [hcg.1.value hi, h.2.1]
      have ef : fndA (v 2) (vl u n i) G.length 0 = fno G (vl u n i) := fndA_eq _ _ (fun j _ hj => (hF.2.2 j (by omega)).1)
      rw [ef]
      refine ⟨fun c2 => ?_, fun c2 => ?_⟩
      · rcases h'.expect (c := 2) (by omega) with ⟨-, g2⟩ | ⟨kx, -⟩
        · refine hq1 k2 _ ?_
          rw [hgc, if_pos c2, List.append_nil]
          exact g2
        · exact absurd k2 kx
      · rw [hcg.1.place]
        rcases (h'.fnm (ps u n i)).expect (c := 2) (by omega) with ⟨-, g2⟩ | ⟨kx, -⟩
        · refine hq1 k2 _ ?_
          rw [hgc, if_neg c2]
          exact g2
        · exact absurd k2 kx
    · refine ⟨fun _ => ?_, fun _ => ?_⟩
      · rcases h'.expect (c := 2) (by omega) with ⟨kx, -⟩ | ⟨-, g2⟩
        · exact absurd kx k2
        · exact hq2 k2 _ g2
      · rw [hcg.1.place]
        rcases (h'.fnm (ps u n i)).expect (c := 2) (by omega) with ⟨kx, -⟩ | ⟨-, g2⟩
        · exact absurd kx k2
        · exact hq2 k2 _ g2
/-- the locals that PARAMETERS are, and their faults of NAMES -/
def scP (u : Nat → Int) (n : Nat) (pl : List (Nat × Int)) : Sc := pl.map (fun p => (vl u n p.1, p.2))
def nfP (u : Nat → Int) (n : Nat) : Sc → List (Nat × Int) → List Nat
  | _, [] => []
  | L, p :: r => (if slt L (vl u n p.1) = -1 then [] else [ps u n p.1]) ++ nfP u n (L ++ [(vl u n p.1, p.2)]) r
/-- addParameter: what it leaves alone -/
theorem par20 {t : Int} {d : Nat} {v : Mem} {Q : Int → Mem → Prop} {a1 a2 : Int} (hq : ∀ v', (∀ c, c ≠ 3 → c ≠ 4 → v' c = v c) → (∀ a c : Nat, a1 = a → (a : Int) < v 1 6 → a < 20 → v 3 a = c → c < 6 → v' = up (up v 4 (a * 6 + c) a2) 3 a ((c + 1 : Nat) : Int)) → Q 0 v') : RR t (d + 1) 20 [(2, 1), (0, a1), (0, a2)] v Q := by
  have stay : (∀ a c : Nat, a1 = a → (a : Int) < v 1 6 → a < 20 → v 3 a = c → c < 6 → False) → Q 0 v := fun hn => hq v (fun _ _ _ => rfl) (fun a c e1 e2 e3 e4 e5 => (hn a c e1 e2 e3 e4 e5).elim)
  refine s_20 ⟨fun c1 => stay (fun a c e1 _ _ _ _ => by omega), fun c1 => ⟨fun c2 => ⟨fun c3 => ?_, fun c3 => stay (fun a c e1 _ e3 _ _ => by omega)⟩, fun c2 => stay (fun a c e1 e2 _ _ _ => by omega)⟩⟩
  obtain ⟨a, rfl⟩ : ∃ a : Nat, a1 = a := ⟨a1.toNat, by omega⟩
  rw [Int.toNat_natCast]
  refine ⟨fun c4 => stay (fun a' c e1 _ _ e4 _ => ?_), fun c4 => ⟨fun c5 => ?_, fun c5 => stay (fun a' c e1 _ _ e4 e5 => ?_)⟩⟩
  · have : a = a' := by omega
    subst this
    omega
  · obtain ⟨c, hc⟩ : ∃ c : Nat, v 3 a = c := ⟨(v 3 a).toNat, by omega⟩
    rw [hc, six (by omega) (by omega), Int.toNat_natCast, wS (k := c) (m := 6) (by omega) (by decide)]
    refine ⟨⟨by omega, by omega⟩, hq _ (fun q h3 h4 => ?_) (fun a' c' e1 _ _ e4 _ => ?_)⟩
    · rw [up_ne (by omega), up_ne (by omega)]
    · have ea : a = a' := by omega
      subst ea
      have ec : c = c' := by omega
      rw [ec]
  · have : a = a' := by omega
    subst this
    omega
theorem CXp.p20 {t : Int} {fi d : Nat} {v0 v : Mem} {u : Nat → Int} {n la j : Nat} {Q : Int → Mem → Prop} {a1 a2 : Int} (h : CXp fi v0 v u n la j) (hq : ∀ v', CXp fi v0 v' u n la j → Q 0 v') : RR t (d + 1) 20 [(2, 1), (0, a1), (0, a2)] v Q := by
  refine par20 (fun v' h1 _ => hq v' (h.tab (fun c hc => h1 c (by omega) (by omega)) (fun q => by rw [h1 1 (by omega) (by omega)]; exact q) (fun c k hc _ => by rw [h1 c (by omega) (by omega)])))
