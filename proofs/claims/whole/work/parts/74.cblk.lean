/-! The class's walk: any S, a BLOCK. -/
theorem skd_0 {k : Int} (h : k ≠ 19 ∧ k ≠ 2 ∧ k ≠ 16 ∧ k ≠ 25 ∧ k ≠ 22 ∧ k ≠ 21 ∧ k ≠ 12) : skd k = 0 := by
  unfold skd
  rw [if_neg (by omega), if_neg (by omega), if_neg (by omega), if_neg (by omega), if_neg (by omega), if_neg (by omega), if_neg (by omega)]
theorem KS_step {s t : Int} {u : Nat → Int} {n la : Nat} {G : Fn} {f : Nat} (hE : ∀ L, KE s t u n la G L f) (hB : KB s t u n la G f) : KS s t u n la G (f + 1) := by
  intro i st dp sc r hp d v Q L rt mx hd hx hr hrt hmx hq
  obtain ⟨d', rfl⟩ : ∃ d', d = d' + 2 := ⟨d - 2, by unfold dB at hd; omega⟩
  obtain ⟨hg, a1, a2, a3⟩ := hx
  have hx : SX s v u n la i st dp sc G L := ⟨hg, a1, a2, a3⟩
  have full : (300 ≤ st ∨ 8 ≤ dp) → Q 0 (m_124 v) := by
    intro h
    rw [PS_2, if_pos (by omega)] at hp
    have hp : erQ i = some r := hp
    cases hp
    exact hq _ ⟨hg.1.refuse_st, FrS.of FrE.refuse⟩
  refine s_91 (d := d') ?_
  rw [a1.1, a2.1]
  refine ⟨fun c1 => ⟨fun c2 => ?_, fun c2 => full (by omega)⟩, fun c1 => full (by omega)⟩
  rw [wS (k := st) (m := 300) (by omega) (by decide), wS (k := dp) (m := 8) (by omega) (by decide)]
  have ha : PA s v u n la i st dp sc G L mx := ⟨hx, hr, by omega, by omega, hmx⟩
  have hb : PB s v (proM st dp v) u n la i st dp G L [] := pro_k hx hr (by omega) (by omega)
  have hkd : f_155 (proM st dp v 22 10) (proM st dp v) = kd u n i := hb.1.kind
  have hkd' : f_155 (m_10 0 0 0 (up (up (up (up v 22 12 ((st + 1 : Nat) : Int)) 22 13 ((dp + 1 : Nat) : Int)) 22 15 0) 22 14 0) 22 10) (m_10 0 0 0 (up (up (up (up v 22 12 ((st + 1 : Nat) : Int)) 22 13 ((dp + 1 : Nat) : Int)) 22 15 0) 22 14 0)) = kd u n i := hkd
  have badk : skd (kd u n i) = 0 → LL t (d' + 2) 91 229 [(2, 22)] [] (proM st dp v) Q := by
    intro h
    rw [PS_2, if_pos (Or.inl h)] at hp
    have hp : erQ i = some r := hp
    cases hp
    refine s_91_229 (d := d' + 1) (epi_x (d := d' + 1) ⟨hb.1.1.refuse_st, hb.2.2.2.2.1.trans (FrS.of FrE.refuse)⟩ hq)
  rw [hkd']
  exact ⟨fun c => give_k (hE L) hp (by unfold dB at hd; omega) hb ha c hq, fun n2 => ⟨fun c => badk (by rw [c]; rfl), fun n3 => ⟨fun c => badk (by rw [c]; rfl), fun n4 => ⟨fun c => badk (by rw [c]; rfl), fun n5 => ⟨fun c => badk (by rw [c]; rfl), fun n6 => ⟨fun c => badk (by rw [c]; rfl), fun n7 => ⟨fun c => badk (by rw [c]; rfl), fun n8 => ⟨fun c => badk (by rw [c]; rfl), fun n9 => ⟨fun c => badk (by rw [c]; rfl), fun n10 => ⟨fun c => badk (by rw [c]; rfl), fun n11 => ⟨fun c => forget_k (hE L) hp (by unfold dB at hd; omega) hb ha c hq, fun n12 => ⟨fun c => badk (by rw [c]; rfl), fun n13 => ⟨fun c => badk (by rw [c]; rfl), fun n14 => ⟨fun c => badk (by rw [c]; rfl), fun n15 => ⟨fun c => choose_k (hE L) hB hp hd hb ha hrt c hq, fun n16 => ⟨fun c => badk (by rw [c]; rfl), fun n17 => ⟨fun c => badk (by rw [c]; rfl), fun n18 => ⟨fun c => let_k (hE L) hp (by unfold dB at hd; omega) hb ha c hq, fun n19 => ⟨fun c => badk (by rw [c]; rfl), fun n20 => ⟨fun c => print_k (hE L) hp (by unfold dB at hd; omega) hb ha c hq, fun n21 => ⟨fun c => return_k (hE L) hp (by unfold dB at hd; omega) hb ha hrt c hq, fun n22 => ⟨fun c => badk (by rw [c]; rfl), fun n23 => ⟨fun c => badk (by rw [c]; rfl), fun n24 => ⟨fun c => repeat_k (hE L) hB hp hd hb ha hrt c hq, fun n25 => badk (skd_0 (by omega))⟩⟩⟩⟩⟩⟩⟩⟩⟩⟩⟩⟩⟩⟩⟩⟩⟩⟩⟩⟩⟩⟩⟩⟩
/-- the S so far and the locals in scope never become fewer -/
theorem PS_mono {K : Nat → Int} : ∀ (f m i st dp sc : Nat) (q : Jvm.Term × Nat × Nat × Nat), PS K f m i st dp sc = some (.ok q) → st ≤ q.2.2.1 ∧ sc ≤ q.2.2.2 ∧ (2 ≤ m → st + 1 ≤ q.2.2.1) := by
  intro f
  induction f with
  | zero => intro m i st dp sc q h; cases h
  | succ f ih =>
    intro m i st dp sc q h
    match m, h with
    | 0, h =>
      rw [PS_0] at h
      split at h
      · rcases bndS_some h with ⟨j, -, e⟩ | ⟨l, i1, st1, sc1, h1, h2⟩
        · cases e
        · have h2 : okQ l i1 st1 sc = some (.ok q) := h2
          cases h2
          have := ih _ _ _ _ _ _ h1
          dsimp only at this ⊢
          omega
      · cases h
    | 1, h =>
      rw [PS_1] at h
      split at h
      · have h : okQ .null (i + 1) st sc = some (.ok q) := h
        cases h
        dsimp only
        omega
      · rcases bndS_some h with ⟨j, -, e⟩ | ⟨S, i1, st1, sc1, h1, h2⟩
        · cases e
        · rcases bndS_some h2 with ⟨j, -, e⟩ | ⟨l, i2, st2, sc2, h3, h4⟩
          · cases e
          · have h4 : okQ (.sub S l) i2 st2 sc2 = some (.ok q) := h4
            cases h4
            have a1 := ih _ _ _ _ _ _ h1
            have a2 := ih _ _ _ _ _ _ h3
            dsimp only at a1 a2 ⊢
            omega
    | m + 2, h =>
      have h : PS K (f + 1) 2 i st dp sc = some (.ok q) := h
      rw [PS_2] at h
      split at h
      · cases h
      split at h
      · split at h
        · split at h
          · rcases bndE_some h with ⟨j, -, e⟩ | ⟨e, i1, s1, -, h2⟩
            · cases e
            · split at h2
              · cases h2
                dsimp only
                omega
              · cases h2
          · cases h
        · cases h
      split at h
      · split at h
        · rcases bndE_some h with ⟨j, -, e⟩ | ⟨e, i1, s1, -, h2⟩
          · cases e
          · split at h2
            · cases h2
              dsimp only
              omega
            · cases h2
        · cases h
      · rcases bndE_some h with ⟨j, -, e⟩ | ⟨e, i1, s1, -, h2⟩
        · cases e
        · split at h2
          · rcases bndS_some h2 with ⟨j, -, e⟩ | ⟨b, i2, st2, sc2, h3, h4⟩
            · cases e
            · have a1 := ih _ _ _ _ _ _ h3
              dsimp only at a1
              split at h4
              · rcases bndS_some h4 with ⟨j, -, e⟩ | ⟨c, i3, st3, sc3, h5, h6⟩
                · cases e
                · have a2 := ih _ _ _ _ _ _ h5
                  cases h6
                  dsimp only at a2 ⊢
                  omega
              · cases h4
                dsimp only
                omega
          · split at h2
            · cases h2
              dsimp only
              omega
            · cases h2
theorem PS_mn {K : Nat → Int} (f i st dp sc : Nat) (q : Jvm.Term × Nat × Nat × Nat) (h : PS K f 2 i st dp sc = some (.ok q)) : st + 1 ≤ q.2.2.1 ∧ sc ≤ q.2.2.2 := ⟨(PS_mono f 2 i st dp sc q h).2.2 (by omega), (PS_mono f 2 i st dp sc q h).2.1⟩
/-- what is asked behind the rest of a BLOCK -/
def PoL (s : Int) (Q : Int → Mem → Prop) (v0 : Mem) (u : Nat → Int) (n la i0 dp sc0 k : Nat) (G : Fn) (L L1 : Sc) (rt : Int) (a : Ac) (nf : List Nat) (tf : List Int) (mx : Nat) (r : Except Nat (Jvm.Term × Nat × Nat × Nat)) : Prop := match r with
  | .error j => ∀ v', CXs v0 v' u n la j → Q 0 v'
  | .ok q => ∀ v', GS s v0 v' u n la i0 q.2.1 q.2.2.1 dp sc0 k G L (a ++ (coB u n G L1 q.1 ((v0 8 3).toNat + a.length) ++ clr L (scB u n G L1 q.1))) (nf ++ nfB u n G L1 q.1) (tf ++ tfB u n G rt L1 q.1) (mxB u n G mx L1 q.1) → Q 0 v'
def KL1 (s t : Int) (u : Nat → Int) (n la : Nat) (G : Fn) (f : Nat) : Prop := ∀ (i st dp sc1 : Nat) (r : Except Nat (Jvm.Term × Nat × Nat × Nat)), PS (kd u n) f 1 i st dp sc1 = some r → ∀ (d : Nat) (v0 v : Mem) (Q : Int → Mem → Prop) (L L1 : Sc) (rt : Int) (mx i0 k sc0 c : Nat) (a : Ac) (nf : List Nat) (tf : List Int), dB dp + 2 ≤ d → GS s v0 v u n la i0 i st dp sc1 k G L1 a nf tf mx → (s = 1 → L.length = sc0 ∧ ∃ M, L1 = L ++ M) → sc0 ≤ sc1 → c ≤ st → (s = 1 → f_27 (v0 22 11) v0 = rt) → PoL s Q v0 u n la i0 dp sc0 k G L L1 rt a nf tf mx r → LL t d 90 16 [(2, 22), (0, (sc0 : Int)), (0, (c : Int))] [] v Q
theorem cutv {v : Mem} {a c : Nat} (h : v 28 2 = c) : f_275 0 (f_276 (a : Int) (v 28 2) v) v = ((min a c : Nat) : Int) := by
  unfold f_275 f_276
  rw [h]
  split <;> split <;> omega
theorem CXs.cut {v0 v : Mem} {u : Nat → Int} {n la j : Nat} (h : CXs v0 v u n la j) (a : Nat) (ha : a ≤ 30) (h0 : ∃ c : Nat, v0 28 2 = c ∧ c ≤ 30) : CXs v0 (up v 28 2 (f_275 0 (f_276 (a : Int) (v 28 2) v) v)) u n la j := by
  obtain ⟨c, hc, hc2⟩ := h.2.2.2.2.2 h0
  rw [cutv hc]
  refine ⟨⟨h.1.1.keep (fun c hc => up_ne (by omega)) rfl, h.1.2.1, h.1.2.2⟩, h.2.trans ⟨fun c _ _ h3 => up_ne (by omega), fun k _ => rfl, rfl, fun h => h, fun _ => ⟨_, up_k, by omega⟩⟩⟩
/-- the end of a BLOCK, behind a fault -/
theorem cx_end {t : Int} {v0 v : Mem} {u : Nat → Int} {n la j sc0 c d : Nat} {Q : Int → Mem → Prop} (h : CXs v0 v u n la j) (hs0 : sc0 ≤ 30) (h0 : ∃ c : Nat, v0 28 2 = c ∧ c ≤ 30) (hq : ∀ v', CXs v0 v' u n la j → Q 0 v') : LL t (d + 2) 90 16 [(2, 22), (0, (sc0 : Int)), (0, (c : Int))] [] v Q := by
  have hx := h.expect 125
  refine s_90_16 (d := d) ⟨fun _ => ⟨fun _ => hq _ ((hx.act _ _ _).cut sc0 hs0 h0), fun _ => hq _ (hx.cut sc0 hs0 h0)⟩, fun _ => ?_⟩
  rw [h.1.kind]
  exact ⟨fun c => absurd c (by decide), fun _ => ⟨fun _ => ⟨fun _ => hq _ ((hx.act _ _ _).cut sc0 hs0 h0), fun _ => hq _ (hx.cut sc0 hs0 h0)⟩, fun c => absurd rfl c⟩⟩
theorem GS.cut {s : Int} {v0 v : Mem} {u : Nat → Int} {n la i0 i st dp sc1 sc0 k : Nat} {G : Fn} {L L1 : Sc} {a : Ac} {nf : List Nat} {tf : List Int} {mx : Nat} (h : GS s v0 v u n la i0 i st dp sc1 k G L1 a nf tf mx) (h1 : s = 1 → L.length = sc0 ∧ ∃ M, L1 = L ++ M) (h2 : sc0 ≤ sc1) : GS s v0 (up v 28 2 (f_275 0 (f_276 (sc0 : Int) (v 28 2) v) v)) u n la i0 i st dp sc0 k G L a nf tf mx := by
  obtain ⟨⟨⟨b1, b4, b5, b6⟩, a1, a2, a3⟩, a4, a5, a6, a7, a8⟩ := h
  rw [cutv a3.1, Nat.min_eq_left h2]
  refine ⟨⟨⟨⟨b1.1.keep (fun c hc => up_ne (by omega)) rfl, b1.2.1, b1.2.2.1, b1.2.2.2⟩, b4, ⟨b5.1, ⟨sc0, up_k, by omega⟩, b5.2.2⟩, fun hs => ?_⟩, a1, a2, up_k, by omega⟩, a4.trans ⟨fun c _ _ h3 => up_ne (by omega), fun k _ => rfl, rfl, fun h => h, fun _ => ⟨_, up_k, by omega⟩⟩, a5.add ?_, a6, a7, a8⟩
  · obtain ⟨c1, c2, c3, c4⟩ := b6 hs
    obtain ⟨e1, M, e2⟩ := h1 hs
    refine ⟨c1, by rw [up_k, e1], by omega, fun k hk => ?_⟩
    subst e2
    have := c4 k (by rw [List.length_append]; omega)
    rw [List.getD_eq_getElem?_getD, List.getElem?_append_left hk, ← List.getD_eq_getElem?_getD] at this
    exact this
  · exact OW.nil (fun c c1 c2 => up_ne (by omega)) rfl rfl (fun _ => by obtain ⟨c, hc, _⟩ := b5.2.2; exact ⟨c, hc⟩)
/-- the end of a BLOCK -/
theorem end_k {s : Int} {v0 v : Mem} {u : Nat → Int} {n la i0 i st dp sc1 sc0 k : Nat} {G : Fn} {L L1 : Sc} {a : Ac} {nf : List Nat} {tf : List Int} {mx : Nat} {Q : Int → Mem → Prop} (h : GS s v0 v u n la i0 i st dp sc1 (k + 1) G L1 a nf tf mx) (h1 : s = 1 → L.length = sc0 ∧ ∃ M, L1 = L ++ M) (h2 : sc0 ≤ sc1) (hq : ∀ v', GS s v0 v' u n la i0 i st dp sc0 k G L (a ++ clr L L1) nf tf mx → Q 0 v') : (((sc0 : Int) < v 28 2 → Q 0 (up (m_10 11 (sc0 : Int) (w32 ((v 28 2) - (sc0 : Int))) v) 28 2 (f_275 0 (f_276 (sc0 : Int) (m_10 11 (sc0 : Int) (w32 ((v 28 2) - (sc0 : Int))) v 28 2) (m_10 11 (sc0 : Int) (w32 ((v 28 2) - (sc0 : Int))) v)) (m_10 11 (sc0 : Int) (w32 ((v 28 2) - (sc0 : Int))) v)))) ∧ (¬ (sc0 : Int) < v 28 2 → Q 0 (up v 28 2 (f_275 0 (f_276 (sc0 : Int) (v 28 2) v) v)))) := by
  have a3 := h.1.2.2.2
  have hl : s = 1 → L1.length = sc1 := fun hs => by
    have := (h.1.1.2.2.2 hs).2.1
    omega
  refine ⟨fun c => ?_, fun c => ?_⟩
  · rw [a3.1] at c ⊢
    rw [wNat (k := sc1 - sc0) (by omega) (by omega)]
    obtain ⟨g1, -, -⟩ := h.act 11 (sc0 : Int) ((sc1 - sc0 : Nat) : Int) (by omega)
    refine hq _ ((g1.cut h1 h2).eq (fun hs => ?_) (fun _ => rfl) (fun _ => rfl) (fun _ => rfl))
    unfold clr
    rw [hl hs, (h1 hs).1, if_pos (by omega)]
  · rw [a3.1] at c
    refine hq _ (((h.less (Nat.le_succ k)).cut h1 h2).eq (fun hs => ?_) (fun _ => rfl) (fun _ => rfl) (fun _ => rfl))
    unfold clr
    rw [hl hs, (h1 hs).1, if_neg (by omega), List.append_nil]
theorem KL1_step {s t : Int} {u : Nat → Int} {n la : Nat} {G : Fn} {f : Nat} (hS : KS s t u n la G f) (hL : KL1 s t u n la G f) : KL1 s t u n la G (f + 1) := by
  intro i st dp sc1 r hp d v0 v Q L L1 rt mx i0 k sc0 c a nf tf hd h h1 h2 hc hrt hq
  obtain ⟨d', rfl⟩ : ∃ d', d = d' + 2 := ⟨d - 2, by omega⟩
  have a3 := h.1.2.2.2
  have hst := h.1.2.1.2
  have h28 : ∃ c : Nat, v 28 2 = c ∧ c ≤ 30 := ⟨sc1, a3.1, a3.2⟩
  rw [PS_1] at hp
  refine s_90_16 (d := d') ⟨fun q => absurd q (by omega), fun _ => ?_⟩
  rw [h.kind]
  refine ⟨fun k125 => ?_, fun k125 => ⟨fun k0 => ?_, fun k0 => ?_⟩⟩
  · rw [if_pos k125] at hp
    have hp : okQ .null (i + 1) st sc1 = some r := hp
    cases hp
    rcases h.expect (c := 125) (by omega) with ⟨-, g1⟩ | ⟨kx, -⟩
    · refine end_k g1 h1 h2 (fun v' g2 => hq v' (g2.eq (fun _ => rfl) (fun _ => ?_) (fun _ => ?_) (fun _ => rfl)))
      · exact (List.append_nil _).symm
      · exact (List.append_nil _).symm
    · exact absurd k125 kx
  · rw [if_neg k125] at hp
    have e1 : PS (kd u n) f 2 i st dp sc1 = some (.error i) ∨ r = r := Or.inr rfl
    rcases h.expect (c := 125) (by omega) with ⟨kx, -⟩ | ⟨-, g1⟩
    · exact absurd kx k125
    · have er : r = .error i := by
        rcases bndS_some hp with ⟨j, h3, rfl⟩ | ⟨S, i1, st1, sc2, h3, -⟩
        · match f, h3 with
          | f + 1, h3 =>
            rw [PS_2, if_pos (Or.inl (by rw [k0]; rfl))] at h3
            have h3 : erQ i = some (.error j) := h3
            cases h3
            rfl
        · match f, h3 with
          | f + 1, h3 =>
            rw [PS_2, if_pos (Or.inl (by rw [k0]; rfl))] at h3
            cases h3
      subst er
      have hx : CXs v (m_123 125 v) u n la i := ⟨g1.1, FrS.of FrE.expect⟩
      have hs0 : sc0 ≤ 30 := by omega
      refine ⟨fun _ => hq _ ?_, fun _ => hq _ ?_⟩
      · have := (hx.act 11 (sc0 : Int) (w32 ((m_123 125 v 28 2) - (sc0 : Int)))).cut sc0 hs0 h28
        exact ⟨this.1, h.2.1.trans this.2⟩
      · have := hx.cut sc0 hs0 h28
        exact ⟨this.1, h.2.1.trans this.2⟩
  · rw [if_neg k125] at hp
    have hdS : dB dp ≤ d' + 1 := by omega
    rcases bndS_some hp with ⟨j, h3, rfl⟩ | ⟨S, i1, st1, sc2, h3, h4⟩
    · refine hS i st dp sc1 _ h3 (d' + 1) v _ L1 rt mx hdS h.1 (fun hs => by have := (h.room hs).1; omega) (fun hs => ?_) h.2.2.2.2.2 ?_
      · rw [h.2.1.2.1 11 (by omega), f27_fr h.2.1]; exact hrt hs
      · intro v' hx
        rw [wS (k := c) (m := 301) (by omega) (by decide)]
        exact cx_end (v0 := v) hx (by omega) h28 (fun v2 h2 => hq v2 ⟨h2.1, h.2.1.trans h2.2⟩)
    · refine hS i st dp sc1 _ h3 (d' + 1) v _ L1 rt mx hdS h.1 (fun hs => by have := (h.room hs).1; omega) (fun hs => ?_) h.2.2.2.2.2 ?_
      · rw [h.2.1.2.1 11 (by omega), f27_fr h.2.1]; exact hrt hs
      · intro v' g
        dsimp only at g
        rw [wS (k := c) (m := 301) (by omega) (by decide)]
        have g2 := (h.subS g).eq (b := a ++ coB u n G L1 S ((v0 8 3).toNat + a.length)) (fun hs => by rw [(h.pc hs).1]) (fun _ => rfl) (fun _ => rfl) (fun _ => rfl)
        have hb := PS_mn (K := kd u n) f i st dp sc1 _ h3
        dsimp only at hb
        have hM : s = 1 → L.length = sc0 ∧ ∃ M, scB u n G L1 S = L ++ M := fun hs => by
          obtain ⟨M, e⟩ := (h1 hs).2
          obtain ⟨M2, e2⟩ := scB_pre (u := u) (n := n) (G := G) S L1
          exact ⟨(h1 hs).1, M ++ M2, by rw [e2, e, List.append_assoc]⟩
        · rcases bndS_some h4 with ⟨j, h5, rfl⟩ | ⟨l, i2, st2, sc3, h5, h6⟩
          · exact hL i1 st1 dp sc2 _ h5 (d' + 2) v0 v' Q L (scB u n G L1 S) rt _ i0 k sc0 (c + 1) _ _ _ hd (g2.less (by omega)) hM (by omega) (by omega) hrt hq
          · have h6 : okQ (.sub S l) i2 st2 sc3 = some r := h6
            cases h6
            refine hL i1 st1 dp sc2 _ h5 (d' + 2) v0 v' Q L (scB u n G L1 S) rt _ i0 k sc0 (c + 1) _ _ _ hd (g2.less (by omega)) hM (by omega) (by omega) hrt ?_
            intro v6 g6
            refine hq v6 (g6.eq (fun _ => ?_) (fun _ => ?_) (fun _ => ?_) (fun _ => rfl))
            · show _ = a ++ ((coB u n G L1 S ((v0 8 3).toNat + a.length) ++ coB u n G (scB u n G L1 S) l ((v0 8 3).toNat + a.length + (coB u n G L1 S ((v0 8 3).toNat + a.length)).length)) ++ clr L (scB u n G (scB u n G L1 S) l))
              simp only [List.append_assoc, List.length_append, Nat.add_assoc]
            · show _ = nf ++ (nfB u n G L1 S ++ nfB u n G (scB u n G L1 S) l)
              simp only [List.append_assoc]
            · show _ = tf ++ (tfB u n G rt L1 S ++ tfB u n G rt (scB u n G L1 S) l)
              simp only [List.append_assoc]
theorem KB_step {s t : Int} {u : Nat → Int} {n la : Nat} {G : Fn} {f : Nat} (hL : KL1 s t u n la G f) : KB s t u n la G (f + 1) := by
  intro i st dp sc r hp d v Q L rt mx hd hx hr hrt hmx hq
  obtain ⟨d', rfl⟩ : ∃ d', d = d' + 2 := ⟨d - 2, by omega⟩
  obtain ⟨hg, a1, a2, a3⟩ := hx
  have h28 : ∃ c : Nat, v 28 2 = c ∧ c ≤ 30 := ⟨sc, a3.1, a3.2⟩
  have g0 : GS s v v u n la i i st dp sc 0 G L [] [] [] mx := ⟨⟨hg, a1, a2, a3⟩, FrS.refl v, OW.nil (fun _ _ _ => rfl) rfl rfl (fun _ => by obtain ⟨c, hc, _⟩ := hg.pc; exact ⟨c, hc⟩), fun hs => ⟨hr hs, by omega⟩, Nat.le_refl _, hmx⟩
  rw [PS_0] at hp
  refine s_90 (d := d') ?_
  rw [a3.1]
  rcases g0.expect (c := 123) (by omega) with ⟨k1, g1⟩ | ⟨k1, g1⟩
  · rw [if_pos k1] at hp
    have hM : s = 1 → L.length = sc ∧ ∃ M, L = L ++ M := fun hs => by
      have := (hg.2.2.2 hs).2.1
      exact ⟨by omega, [], (List.append_nil L).symm⟩
    rcases bndS_some hp with ⟨j, h3, rfl⟩ | ⟨l, i1, st1, sc1, h3, h4⟩
    · exact hL (i + 1) st dp sc _ h3 (d' + 2) v _ Q L L rt mx i 1 sc 0 [] [] [] hd g1 hM (Nat.le_refl _) (by omega) hrt hq
    · have h4 : okQ l i1 st1 sc = some r := h4
      cases h4
      refine hL (i + 1) st dp sc _ h3 (d' + 2) v _ Q L L rt mx i 1 sc 0 [] [] [] hd g1 hM (Nat.le_refl _) (by omega) hrt ?_
      intro v' g
      exact hq v' (g.eq (fun _ => rfl) (fun _ => rfl) (fun _ => rfl) (fun _ => rfl))
  · rw [if_neg k1] at hp
    have hp : erQ i = some r := hp
    cases hp
    exact cx_end g1 a3.2 h28 hq
/-- the class reads S and BLOCKs as the grammar says -/
theorem KS_all (s t : Int) (u : Nat → Int) (n la : Nat) (G : Fn) : ∀ f, KS s t u n la G f ∧ KB s t u n la G f ∧ KL1 s t u n la G f := by
  intro f
  induction f with
  | zero => refine ⟨fun i st dp sc r h => ?_, fun i st dp sc r h => ?_, fun i st dp sc r h => ?_⟩ <;> cases h
  | succ f ih => exact ⟨KS_step (fun L => (KE_all s t u n la G L f).1) ih.2.1, KB_step ih.2.2, KL1_step ih.1 ih.2.2⟩
