/-! The class's walk over an E: rows of parts with signs between them. -/
theorem cx_loop {t : Int} {v0 v : Mem} {u : Nat → Int} {n la j l d : Nat} {Q : Int → Mem → Prop} {b y m c : Int} (h : CXf v0 v u n la j) (hq : Q y v) : LL t (d + 2) 100 39 [(2, 22), (0, (l : Int)), (0, b), (0, y), (0, m), (0, c), (3, 0)] [] v Q := by
  refine s_100_39 (d := d) ⟨fun _ => ?_, fun _ => hq⟩
  rw [h.1.kind]
  refine level_rr ⟨fun c => ?_, fun _ => hq⟩
  have e0 : lvC 0 = -1 := by decide
  rw [e0] at c
  exact absurd c (by omega)
theorem KE_step {s t : Int} {u : Nat → Int} {n la : Nat} {G : Fn} {L : Sc} {f : Nat} (hE : KE s t u n la G L f) (hL : KL s t u n la G L f) (hF : KF s t u n la G L (f + 1)) : KE s t u n la G L (f + 1) := by
  intro l x i sg nb r hl hp d v Q hd hg hr hq
  obtain ⟨d', rfl⟩ : ∃ d', d = d' + 2 := ⟨d - 2, by unfold dN at hd; omega⟩
  by_cases h5 : l = 5
  · subst h5
    refine s_100 (d := d') ⟨fun _ => ?_, fun c => absurd (by decide) c⟩
    exact RR.imp (hF x i sg nb r hp (d' + 1) v Q (by unfold dN at *; omega) hg hr hq) (fun _ _ h => h)
  · have hl5 : l < 5 := by omega
    rw [PE_row hl5] at hp
    refine s_100 (d := d') ⟨fun c => absurd c (by omega), fun _ => ?_⟩
    rw [wS hl5 (by decide), hg.place]
    rcases bnd_some hp with ⟨j, h1, rfl⟩ | ⟨e, i1, s1, h1, h2⟩
    · refine hE (l + 1) x i sg nb _ (by omega) h1 (d' + 1) v _ (by unfold dN at *; omega) hg hr ?_
      intro y v' hx
      exact ⟨fun _ => cx_loop hx (hq y v' hx), fun _ => cx_loop hx (hq y v' hx)⟩
    · refine hE (l + 1) x i sg nb _ (by omega) h1 (d' + 1) v _ (by unfold dN at *; omega) hg hr ?_
      intro y v' g hy hf hs1
      dsimp only at g hy hf hs1
      have := hL l e i1 s1 nb r hl5 h2 (d' + 2) v v' Q i sg 0 y (by unfold dN at *; omega) g hy hf hs1 (by omega) (fun _ => rfl) hq
      refine ⟨fun c => ?_, fun c => ?_⟩
      · rw [if_pos (by omega)] at this; exact this
      · rw [if_neg (by omega)] at this; exact this
/-- what is asked behind the right side of a sign -/
def PoBc (s : Int) (Q : Int → Mem → Prop) (v0 : Mem) (u : Nat → Int) (n la nb i0 i : Nat) (G : Fn) (L : Sc) (x : Jvm.Term) (sg : Nat) (r : Except Nat (Jvm.Term × Nat × Nat)) : Prop := match r with
  | .error j => ∀ v', CXf v0 v' u n la j → Q 0 v'
  | .ok q => ∀ v', GO s v0 v' u n la i0 q.2.1 q.2.2 nb 0 G L (coE u n G L (nodeB i x q.1) (v0 8 3).toNat) (nfE u n G L (nodeB i x q.1)) (tfE u n G L [] (nodeB i x q.1)) → sg ≤ q.2.2 → Q 0 v'
theorem settle_k {s t : Int} {u : Nat → Int} {n la : Nat} {G : Fn} {L : Sc} {f : Nat} (hE : KE s t u n la G L f) {l : Nat} (hl : l < 2) {x : Jvm.Term} {i sg nb : Nat} {r : Except Nat (Jvm.Term × Nat × Nat)} (hp : PE (kd u n) f (l + 1) x (i + 1) (sg + 1) nb = some r) {d : Nat} {v0 v : Mem} {Q : Int → Mem → Prop} {i0 : Nat} {ty : Int} (hd : dN nb (sg + 1) (12 - (l + 1)) + 1 ≤ d) (h : GO s v0 v u n la i0 (i + 1) (sg + 1) nb 2 G L (coE u n G L x (v0 8 3).toNat) (nfE u n G L x) (tfE u n G L [] x)) (hty : s = 1 → ty = tyE u n G L x) (hf : fstT u n x = (ps u n i0 : Int)) (hlv : lvl (kd u n i) = l) (hq : PoBc s Q v0 u n la nb i0 i G L x (sg + 1) r) : RR t d 102 [(2, 22), (0, (l : Int)), (0, kd u n i), (0, ty), (0, (ps u n i0 : Int))] v Q := by
  obtain ⟨d', rfl⟩ : ∃ d', d = d' + 2 := ⟨d - 2, by unfold dN at hd; omega⟩
  have key : ∀ z : Int, z = (if kd u n i = 20 then 1 else 0) → RR t (d' + 1) 100 [(2, 22), (0, (w32 ((l : Int) + 1)))] (m_10 4 0 z (m_126 0 ty (ps u n i0 : Int) v)) (fun x2 v2 => (RR t (d' + 1) 11 [(2, 8), (0, (f_10 4 0 z (m_126 0 ty (ps u n i0 : Int) v)))] (m_10 14 0 0 (m_126 0 x2 (f_156 (m_10 4 0 z (m_126 0 ty (ps u n i0 : Int) v) 22 10) (m_10 4 0 z (m_126 0 ty (ps u n i0 : Int) v))) v2)) (fun x3 v3 => Q 0 v3))) := by
    intro z hz
    rw [wS hl (by decide)]
    have h1 := h.want 0 ty (ps u n i0 : Int)
    obtain ⟨h2, h2a, h2b⟩ := h1.act 4 0 z (by omega)
    rw [h2.1.place]
    refine hE (l + 1) x (i + 1) (sg + 1) nb r (by omega) hp (d' + 1) _ _ (by unfold dN at *; omega) h2.1 (fun hs => by have := (h2.room hs).1; omega) ?_
    match r, hq with
    | .error j, hq =>
      intro y v' hx
      have hx2 := ((hx.of h2.2.1).want 0 y ((ps u n (i + 1) : Nat) : Int)).act 14 0 0
      refine aim_rr ?_ (hq _ (hx2.aim _))
      obtain ⟨c, hc, hc2⟩ := hx2.2.2.2.2 h.h8
      rw [hc]
      omega
    | .ok (y, i1, s1), hq =>
      intro ty2 v' g hy hf2 hs1
      dsimp only at g hy hf2 hs1
      have h3 := (h2.sub g).want 0 ty2 ((ps u n (i + 1) : Nat) : Int)
      obtain ⟨h4, -, -⟩ := GO.act (k := 0) h3 14 0 0 (by omega)
      refine aim_rr ?_ ?_
      · obtain ⟨c, hc, hc2⟩ := h4.1.pc
        rw [hc]
        omega
      · have e1 : (v0 8 3).toNat + (coE u n G L x (v0 8 3).toNat ++ [((4 : Int), (0 : Int), z)]).length = (v0 8 3).toNat + (coE u n G L x (v0 8 3).toNat).length + 1 := by
          rw [List.length_append]; rfl
        rw [e1] at h4
        have h4' := h4.eq (b := coE u n G L x (v0 8 3).toNat ++ (4, 0, z) :: (coE u n G L y ((v0 8 3).toNat + (coE u n G L x (v0 8 3).toNat).length + 1) ++ [(14, 0, 0)])) (fun _ => by simp only [List.append_assoc, List.cons_append, List.nil_append]) (fun _ => rfl) (fun _ => rfl)
        have h5 := GO.aim (a := coE u n G L x (v0 8 3).toNat) h4' (fun hs => h2a hs) h2b
        refine hq _ (h5.eq (fun hs => ?_) (fun hs => ?_) (fun hs => ?_)) hs1
        · have hlv1 : lvl (kd u n i) ≤ 1 := by omega
          have e2 : (coE u n G L y ((v0 8 3).toNat + (coE u n G L x (v0 8 3).toNat).length + 1) ++ [((14 : Int), (0 : Int), (0 : Int))]).length = (coE u n G L y ((v0 8 3).toNat + (coE u n G L x (v0 8 3).toNat).length + 1)).length + 1 := by
            rw [List.length_append]; rfl
          show _ = (if lvl (kd u n i) ≤ 1 then _ else _)
          rw [if_pos hlv1, ← hz, e2]
          rfl
        · rfl
        · have hlv2 : ¬ lvl (kd u n i) = 2 := by omega
          have h38 : ¬ kd u n i = 38 := by
            intro e
            rw [e] at hlv
            have : lvl 38 = 3 := by decide
            omega
          show _ = (if lvl (kd u n i) = 2 then _ else _)
          rw [if_neg hlv2, if_neg h38, hty hs, hy hs, hf, hf2]
          simp only [List.append_assoc]
  refine s_102 ⟨fun c => key 1 (by rw [if_pos c]), fun c => key 0 (by rw [if_neg c])⟩
theorem compare_k {s t : Int} {u : Nat → Int} {n la : Nat} {G : Fn} {L : Sc} {f : Nat} (hE : KE s t u n la G L f) {x : Jvm.Term} {i sg nb : Nat} {r : Except Nat (Jvm.Term × Nat × Nat)} (hp : PE (kd u n) f 3 x (i + 1) (sg + 1) nb = some r) {d : Nat} {v0 v : Mem} {Q : Int → Mem → Prop} {i0 : Nat} {ty : Int} (hd : dN nb (sg + 1) 9 + 1 ≤ d) (h : GO s v0 v u n la i0 (i + 1) (sg + 1) nb 1 G L (coE u n G L x (v0 8 3).toNat) (nfE u n G L x) (tfE u n G L [] x)) (hty : s = 1 → ty = tyE u n G L x) (hlv : lvl (kd u n i) = 2) (hq : PoBc s Q v0 u n la nb i0 i G L x (sg + 1) r) : RR t d 103 [(2, 22), (0, kd u n i), (0, ty)] v Q := by
  obtain ⟨d', rfl⟩ : ∃ d', d = d' + 2 := ⟨d - 2, by unfold dN at hd; omega⟩
  refine s_103 ?_
  rw [h.1.place]
  refine hE 3 x (i + 1) (sg + 1) nb r (by omega) hp (d' + 1) _ _ (by unfold dN at *; omega) h.1 (fun hs => by have := (h.room hs).1; omega) ?_
  match r, hq with
  | .error j, hq => exact fun y v' hx => hq _ (((hx.of h.2.1).want _ _ _).act _ _ _)
  | .ok (y, i1, s1), hq =>
    intro ty2 v' g hy hf2 hs1
    dsimp only at g hy hf2 hs1
    have h3 := (h.sub g).want ty ty2 ((ps u n (i + 1) : Nat) : Int)
    obtain ⟨h4, -, -⟩ := GO.act (k := 0) h3 18 (kd u n i) ty (by omega)
    refine hq _ (h4.eq (fun hs => ?_) (fun hs => rfl) (fun hs => ?_)) hs1
    · show _ = (if lvl (kd u n i) ≤ 1 then _ else if lvl (kd u n i) = 2 then _ else _)
      rw [if_neg (by omega), if_pos hlv, hty hs, List.append_assoc]
    · show _ = (if lvl (kd u n i) = 2 then _ else _)
      rw [if_pos hlv, hty hs, hy hs, hf2, List.append_assoc]
theorem reckon_k {s t : Int} {u : Nat → Int} {n la : Nat} {G : Fn} {L : Sc} {f : Nat} (hE : KE s t u n la G L f) {l : Nat} (hl : l < 5) (hl2 : 2 < l) {x : Jvm.Term} {i sg nb : Nat} {r : Except Nat (Jvm.Term × Nat × Nat)} (hp : PE (kd u n) f (l + 1) x (i + 1) (sg + 1) nb = some r) {d : Nat} {v0 v : Mem} {Q : Int → Mem → Prop} {i0 : Nat} {ty : Int} (hd : dN nb (sg + 1) (12 - (l + 1)) + 1 ≤ d) (h : GO s v0 v u n la i0 (i + 1) (sg + 1) nb 1 G L (coE u n G L x (v0 8 3).toNat) (nfE u n G L x) (tfE u n G L [] x)) (hty : s = 1 → ty = tyE u n G L x) (hf : fstT u n x = (ps u n i0 : Int)) (hlv : lvl (kd u n i) = l) (hq : PoBc s Q v0 u n la nb i0 i G L x (sg + 1) r) : RR t d 104 [(2, 22), (0, (l : Int)), (0, kd u n i), (0, ty), (0, (ps u n i0 : Int))] v Q := by
  obtain ⟨d', rfl⟩ : ∃ d', d = d' + 2 := ⟨d - 2, by unfold dN at hd; omega⟩
  have key : ∀ z w : Int, z = (if kd u n i = 38 then 1 else 0) → w = (if kd u n i = 38 then 19 else 17) → (0 ≤ w ∧ w < 128) → RR t (d' + 1) 100 [(2, 22), (0, (w32 ((l : Int) + 1)))] (m_126 z ty (ps u n i0 : Int) v) (fun x2 v2 => Q 0 (m_10 w (kd u n i) 0 (m_126 z x2 (f_156 (m_126 z ty (ps u n i0 : Int) v 22 10) (m_126 z ty (ps u n i0 : Int) v)) v2))) := by
    intro z w hz hw hw2
    rw [wS hl (by decide)]
    have h1 := h.want z ty (ps u n i0 : Int)
    rw [h1.1.place]
    refine hE (l + 1) x (i + 1) (sg + 1) nb r (by omega) hp (d' + 1) _ _ (by unfold dN at *; omega) h1.1 (fun hs => by have := (h1.room hs).1; omega) ?_
    match r, hq with
    | .error j, hq => exact fun y v' hx => hq _ (((hx.of h1.2.1).want _ _ _).act _ _ _)
    | .ok (y, i1, s1), hq =>
      intro ty2 v' g hy hf2 hs1
      dsimp only at g hy hf2 hs1
      have h3 := (h1.sub g).want z ty2 ((ps u n (i + 1) : Nat) : Int)
      obtain ⟨h4, -, -⟩ := GO.act (k := 0) h3 w (kd u n i) 0 hw2
      refine hq _ (h4.eq (fun hs => ?_) (fun hs => rfl) (fun hs => ?_)) hs1
      · show _ = (if lvl (kd u n i) ≤ 1 then _ else if lvl (kd u n i) = 2 then _ else _)
        rw [if_neg (by omega), if_neg (by omega), ← hw, List.append_assoc]
      · show _ = (if lvl (kd u n i) = 2 then _ else _)
        rw [if_neg (by omega), ← hz, hty hs, hy hs, hf, hf2]
        simp only [List.append_assoc]
  refine s_104 ⟨fun c => ?_, fun c => ?_⟩
  · exact RR.imp (key 1 19 (by rw [if_pos c]) (by rw [if_pos c]) (by omega)) (fun _ _ h => ⟨fun _ => h, fun c' => absurd c c'⟩)
  · exact RR.imp (key 0 17 (by rw [if_neg c]) (by rw [if_neg c]) (by omega)) (fun _ _ h => ⟨fun c' => absurd c' c, fun _ => h⟩)
/-- behind a fault, what stands behind a sign ends at once -/
theorem cx_signs {t : Int} {v0 v : Mem} {u : Nat → Int} {n la j l d : Nat} {Q : Int → Mem → Prop} {k y b : Int} (h : CXf v0 v u n la j) (h8 : ∃ c : Nat, v0 8 3 = c ∧ c ≤ 3100) (hl : l < 5) (hd : 12 ≤ d) (hq : ∀ v', CXf v0 v' u n la j → Q 0 v') : RR t d 102 [(2, 22), (0, (l : Int)), (0, k), (0, y), (0, b)] v Q ∧ RR t d 103 [(2, 22), (0, k), (0, y)] v Q ∧ RR t d 104 [(2, 22), (0, (l : Int)), (0, k), (0, y), (0, b)] v Q := by
  obtain ⟨d', rfl⟩ : ∃ d', d = d' + 2 := ⟨d - 2, by omega⟩
  have a1 : ∀ v', CXf v0 v' u n la j → ∀ z, RR t (d' + 1) 11 [(2, 8), (0, z)] v' (fun x v3 => Q 0 v3) := by
    intro v' hx z
    refine aim_rr ?_ (hq _ (hx.aim _))
    obtain ⟨c, hc, hc2⟩ := hx.2.2.2.2 h8
    rw [hc]
    omega
  refine ⟨s_102 ?_, s_103 ?_, s_104 ?_⟩
  · rw [wS hl (by decide)]
    exact ⟨fun _ => ((h.want _ _ _).act _ _ _).row (by omega) (by omega) (a1 _ ((((h.want _ _ _).act _ _ _).want _ _ _).act _ _ _) _), fun _ => ((h.want _ _ _).act _ _ _).row (by omega) (by omega) (a1 _ ((((h.want _ _ _).act _ _ _).want _ _ _).act _ _ _) _)⟩
  · exact h.row (l := 3) (by omega) (by omega) (hq _ ((h.want _ _ _).act _ _ _))
  · rw [wS hl (by decide)]
    exact ⟨fun _ => (h.want _ _ _).row (by omega) (by omega) ⟨fun _ => hq _ (((h.want _ _ _).want _ _ _).act _ _ _), fun _ => hq _ (((h.want _ _ _).want _ _ _).act _ _ _)⟩, fun _ => (h.want _ _ _).row (by omega) (by omega) ⟨fun _ => hq _ (((h.want _ _ _).want _ _ _).act _ _ _), fun _ => hq _ (((h.want _ _ _).want _ _ _).act _ _ _)⟩⟩
theorem KL_step {s t : Int} {u : Nat → Int} {n la : Nat} {G : Fn} {L : Sc} {f : Nat} (hE : KE s t u n la G L f) (hL : KL s t u n la G L f) : KL s t u n la G L (f + 1) := by
  intro l x i sg nb r hl hp d v0 v Q i0 sg0 c ty hd h hty hf hs0 hc hc2 hq
  obtain ⟨d', rfl⟩ : ∃ d', d = d' + 2 := ⟨d - 2, by unfold dN at hd; omega⟩
  have hd20 : 20 ≤ d' := by unfold dN at hd; omega
  have hsg := h.1.2.1.2
  rw [PE_lp hl] at hp
  have hcm : (c : Int) < (if l = 2 then 1 else 41) := by
    by_cases e : l = 2
    · rw [if_pos e, hc2 e]; decide
    · rw [if_neg e]; omega
  refine s_100_39 (d := d') ⟨fun _ => ?_, fun q => absurd hcm q⟩
  rw [h.1.kind]
  refine level_rr ⟨fun q => ?_, fun q => ?_⟩
  · have hlv : lvl (kd u n i) = l := by
      unfold lvC at q
      split at q <;> omega
    rw [if_pos hlv] at hp
    have hk := lvl_k (k := kd u n i) (by omega)
    rw [h.1.kind]
    rcases h.sign with ⟨hs, g⟩ | ⟨hs, g⟩
    · rw [if_neg (by omega)] at hp
      have post : ∀ r1, PE (kd u n) f (l + 1) x (i + 1) (sg + 1) nb = some r1 → PoBc s (fun x6 v6 => ((kd u n i = 38 → LL t (d' + 2) 100 39 [(2, 22), (0, (l : Int)), (0, (ps u n i0 : Int)), (0, 1), (0, if l = 2 then 1 else 41), (0, (w32 ((c : Int) + 1))), (3, 0)] [] v6 Q) ∧ (¬ kd u n i = 38 → LL t (d' + 2) 100 39 [(2, 22), (0, (l : Int)), (0, (ps u n i0 : Int)), (0, 0), (0, if l = 2 then 1 else 41), (0, (w32 ((c : Int) + 1))), (3, 0)] [] v6 Q))) v0 u n la nb i0 i G L x (sg + 1) r1 := by
        intro r1 hr1
        rcases bnd_some hp with ⟨j, h1, rfl⟩ | ⟨y, i1, s1, h1, h2⟩
        · rw [h1] at hr1
          cases hr1
          intro v' hx
          exact ⟨fun _ => cx_loop hx (hq _ _ hx), fun _ => cx_loop hx (hq _ _ hx)⟩
        · rw [h1] at hr1
          cases hr1
          intro v' g2 hs2
          dsimp only at g2 hs2
          have key : ∀ z : Int, z = (if kd u n i = 38 then 1 else 0) → LL t (d' + 2) 100 39 [(2, 22), (0, (l : Int)), (0, (ps u n i0 : Int)), (0, z), (0, if l = 2 then 1 else 41), (0, (w32 ((c : Int) + 1))), (3, 0)] [] v' Q := by
            intro z hz
            rw [wS (k := c) (m := 41) (by omega) (by decide)]
            by_cases hl2 : l = 2
            · rw [if_pos hl2] at h2
              have h2 : okP (nodeB i x y) i1 s1 = some r := h2
              cases h2
              refine s_100_39 (d := d') ⟨fun q => absurd q ?_, fun _ => ?_⟩
              · rw [if_pos hl2, hc2 hl2]; decide
              · exact hq _ _ g2 (fun _ => hz) hf (by dsimp only; omega)
            · rw [if_neg hl2] at h2
              exact hL l (nodeB i x y) i1 s1 nb r hl h2 (d' + 2) v0 v' Q i0 sg0 (c + 1) z (by unfold dN at *; omega) g2 (fun _ => hz) hf (by omega) (by omega) (fun e => absurd e hl2) hq
          exact ⟨fun e => key 1 (by rw [if_pos e]), fun e => key 0 (by rw [if_neg e])⟩
      obtain ⟨r1, hr1⟩ : ∃ r1, PE (kd u n) f (l + 1) x (i + 1) (sg + 1) nb = some r1 := by
        rcases bnd_some hp with ⟨j, h1, -⟩ | ⟨y, i1, s1, h1, -⟩
        · exact ⟨_, h1⟩
        · exact ⟨_, h1⟩
      refine ⟨fun c1 => ⟨fun c2 => ?_, fun c2 => ?_⟩, fun c1 => ?_⟩
      · have e2 : l = 2 := by omega
        subst e2
        exact compare_k hE hr1 (by unfold dN at *; omega) (g.next hk.1 hk.2) hty hlv (post r1 hr1)
      · exact reckon_k hE hl (by omega) hr1 (by unfold dN at *; omega) (g.next hk.1 hk.2) hty hf hlv (post r1 hr1)
      · have e2 : ps u n i + 2 ≤ ps u n (i + 1) := by
          have e3 : kd u n i = 20 ∨ kd u n i = 10 := by
            unfold lvl at hlv
            split at hlv
            · omega
            · split at hlv
              · omega
              · split at hlv
                · omega
                · split at hlv
                  · omega
                  · split at hlv <;> omega
          refine h.1.adv2 i 2 (by omega) ?_
          rcases e3 with e3 | e3 <;> (rw [e3]; decide +kernel)
        exact settle_k hE (by omega) hr1 (by unfold dN at *; omega) (g.nextL hk.1 2 e2) hty hf hlv (post r1 hr1)
    · rw [if_pos hs] at hp
      have hp : erP i = some r := hp
      cases hp
      have hx := g.next
      have post : ∀ v6, CXf v0 v6 u n la i → ((kd u n i = 38 → LL t (d' + 2) 100 39 [(2, 22), (0, (l : Int)), (0, (ps u n i0 : Int)), (0, 1), (0, if l = 2 then 1 else 41), (0, (w32 ((c : Int) + 1))), (3, 0)] [] v6 Q) ∧ (¬ kd u n i = 38 → LL t (d' + 2) 100 39 [(2, 22), (0, (l : Int)), (0, (ps u n i0 : Int)), (0, 0), (0, if l = 2 then 1 else 41), (0, (w32 ((c : Int) + 1))), (3, 0)] [] v6 Q)) := fun v6 h6 => ⟨fun _ => cx_loop h6 (hq _ _ h6), fun _ => cx_loop h6 (hq _ _ h6)⟩
      refine ⟨fun c1 => ⟨fun c2 => ?_, fun c2 => ?_⟩, fun c1 => ?_⟩
      · exact (cx_signs (l := l) (b := 0) hx h.h8 hl (by omega) post).2.1
      · exact (cx_signs hx h.h8 hl (by omega) post).2.2
      · exact (cx_signs hx h.h8 hl (by omega) post).1
  · have hlv : ¬ lvl (kd u n i) = l := by
      intro e
      apply q
      unfold lvC
      rw [if_pos (by omega), e]
    rw [if_neg hlv] at hp
    have hp : okP x i sg = some r := hp
    cases hp
    exact hq ty v h hty hf hs0
