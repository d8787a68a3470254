/-! The reference: the TYPES of an E. -/
/-- a fault of TYPES is told -/
def fl (v : Mem) (p : Int) : Mem := up (up v 38 5 3) 38 6 p
/-- what types rest on -/
def TC (v : Mem) (G : Fn) (L : Sc) : Prop := v 38 5 = 0 ∧ (L.length ≤ 30 ∧ ∀ k, k < L.length → v 65 k = (L.getD k (0, 0)).2 ∧ 0 ≤ (L.getD k (0, 0)).2) ∧ (G.length ≤ 20 ∧ ∀ k, k < G.length → v 44 k = (G.getD k (0, [], 0)).2.2 ∧ 0 ≤ (G.getD k (0, [], 0)).2.2 ∧ (G.getD k (0, [], 0)).2.1.length ≤ 6 ∧ ∀ j, j < (G.getD k (0, [], 0)).2.1.length → v 48 (6 * k + j) = (G.getD k (0, [], 0)).2.1.getD j 0)
theorem TC.sln {v : Mem} {G : Fn} {L : Sc} (h : TC v G L) (x : Int) : 0 ≤ slT L x := by
  unfold slT
  split
  · exact Int.le_refl _
  · rcases slt_r L x with e | ⟨j, e, h1, h2⟩
    · omega
    · rw [e, Int.toNat_natCast]
      exact (h.2.1.2 j h1).2
theorem TC.fnn {v : Mem} {G : Fn} {L : Sc} (h : TC v G L) (x : Int) : 0 ≤ fnT G x := by
  unfold fnT
  split
  · exact Int.le_refl _
  · rcases fno_r G x with e | ⟨j, e, h1, h2⟩
    · omega
    · rw [e, Int.toNat_natCast]
      exact (h.2.2.2 j h1).2.1
theorem TC.tyn {v : Mem} {u : Nat → Int} {n : Nat} {G : Fn} {L : Sc} (h : TC v G L) : ∀ (N : Nat) (e : Jvm.Term), SizeOf.sizeOf e < N → 0 ≤ tyE u n G L e := by
  intro N
  induction N with
  | zero => intro e he; exact absurd he (Nat.not_lt_zero _)
  | succ N ih =>
    intro e he
    unfold tyE
    split
    · split
      · exact Int.le_refl _
      · split
        · decide
        · exact h.sln _
    · exact ih _ (by simp at he; omega)
    · split <;> decide
    · decide
    · split <;> decide
    · exact h.fnn _
    · exact Int.le_refl _
theorem iso {t : Int} {u : Nat → Int} {n : Nat} {G : Fn} {L : Sc} {e : Jvm.Term} {k d : Nat} {v : Mem} {Q : Int → Mem → Prop} {due : Int} (hk : k < 3300) (h61 : v 61 k = fstT u n e) (hT : TC v G L)
    (hr : ∀ Q' : Int → Mem → Prop, (tfE u n G L [] e = [] → Q' (tyE u n G L e) v) → (∀ p r, tfE u n G L [] e = p :: r → Q' (-1) (fl v p)) → RR t d 226 [(2, 38), (0, (k : Int))] v Q')
    (h1 : tfE u n G L [] e ++ wt due (tyE u n G L e) (fstT u n e) = [] → Q 1 v) (h2 : ∀ p r, tfE u n G L [] e ++ wt due (tyE u n G L e) (fstT u n e) = p :: r → Q 0 (fl v p)) : RR t (d + 1) 225 [(2, 38), (0, (k : Int)), (0, due)] v Q := by
  have hn := hT.tyn (u := u) (n := n) _ e (Nat.lt_succ_self _)
  refine s_225 (hr _ (fun e0 => ⟨fun c => absurd c (by omega), fun _ => ⟨fun e1 => ⟨fun _ => h1 ?_, fun c => absurd hT.1 c⟩, fun e1 => ⟨⟨by omega, by omega⟩, ?_⟩⟩⟩) (fun p r e0 => ⟨fun _ => ⟨fun c => absurd c (by show ¬ (3 : Int) = 0; decide), fun _ => h2 p _ (by rw [e0]; rfl)⟩, fun c => absurd (by decide) c⟩))
  · rw [e0]
    unfold wt
    rw [if_pos e1.symm]
    rfl
  · rw [Int.toNat_natCast, h61]
    refine h2 (fstT u n e) [] ?_
    rw [e0]
    unfold wt
    rw [if_neg (fun h => e1 h.symm)]
    rfl
/-- a node of two parts, of types a and b -/
def N2 (t : Int) (d k : Nat) (v : Mem) (Q : Int → Mem → Prop) (a b c : Int) : Prop := RR t d 225 [(2, 38), (0, v 58 k), (0, a)] v (fun x1 v1 => (x1 = 0 → Q (-1) v1) ∧ (¬ x1 = 0 → ((0 ≤ (k : Int) ∧ (k : Int) < 3300) ∧ RR t d 225 [(2, 38), (0, v1 59 k), (0, b)] v1 (fun x3 v3 => (x3 = 0 → Q (-1) v3) ∧ (¬ x3 = 0 → Q c v3)))))
def N1 (t : Int) (d k : Nat) (v : Mem) (Q : Int → Mem → Prop) (a c : Int) : Prop := RR t d 225 [(2, 38), (0, v 58 k), (0, a)] v (fun x1 v1 => (x1 = 0 → Q (-1) v1) ∧ (¬ x1 = 0 → Q c v1))
theorem n_1 {t : Int} {d k : Nat} {v : Mem} {Q : Int → Mem → Prop} (hk : k < 3300) {o a c : Int} (h57 : v 57 k = o) (ho : (o = 5 ∧ a = 0 ∧ c = 0) ∨ (o = 6 ∧ a = 0 ∧ c = 0) ∨ (o = 21 ∧ a = 1 ∧ c = 0) ∨ (o = 23 ∧ a = 0 ∧ c = 1) ∨ (o = 24 ∧ a = 0 ∧ c = 1)) (h : N1 t d k v Q a c) : RR t (d + 1) 226 [(2, 38), (0, (k : Int))] v Q := by
  have g : 0 ≤ (k : Int) ∧ (k : Int) < 3300 := ⟨by omega, by omega⟩
  unfold N1 at h
  refine s_226 ?_
  rw [Int.toNat_natCast, h57]
  refine ⟨g, ?_⟩
  rcases ho with ⟨rfl, rfl, rfl⟩ | ⟨rfl, rfl, rfl⟩ | ⟨rfl, rfl, rfl⟩ | ⟨rfl, rfl, rfl⟩ | ⟨rfl, rfl, rfl⟩
  · iterate 4 refine ⟨fun c => absurd c (by decide), fun _ => ?_⟩
    exact ⟨fun _ => ⟨g, h⟩, fun c => absurd rfl c⟩
  · iterate 5 refine ⟨fun c => absurd c (by decide), fun _ => ?_⟩
    exact ⟨fun _ => ⟨g, h⟩, fun c => absurd rfl c⟩
  · iterate 20 refine ⟨fun c => absurd c (by decide), fun _ => ?_⟩
    exact ⟨fun _ => ⟨g, h⟩, fun c => absurd rfl c⟩
  · iterate 22 refine ⟨fun c => absurd c (by decide), fun _ => ?_⟩
    exact ⟨fun _ => ⟨g, h⟩, fun c => absurd rfl c⟩
  · iterate 23 refine ⟨fun c => absurd c (by decide), fun _ => ?_⟩
    exact ⟨fun _ => ⟨g, h⟩, fun c => absurd rfl c⟩
theorem n_2 {t : Int} {d k : Nat} {v : Mem} {Q : Int → Mem → Prop} (hk : k < 3300) {o a b c : Int} (h57 : v 57 k = o) (ho : ((o = 7 ∨ o = 8 ∨ o = 13 ∨ o = 14 ∨ o = 16 ∨ o = 17 ∨ o = 18) ∧ a = 0 ∧ b = 0 ∧ c = 0) ∨ (o = 15 ∧ a = 1 ∧ b = 1 ∧ c = 1) ∨ (o = 19 ∧ a = 1 ∧ b = 0 ∧ c = 0) ∨ (o = 22 ∧ a = 1 ∧ b = 1 ∧ c = 0)) (h : N2 t d k v Q a b c) : RR t (d + 1) 226 [(2, 38), (0, (k : Int))] v Q := by
  have g : 0 ≤ (k : Int) ∧ (k : Int) < 3300 := ⟨by omega, by omega⟩
  have a3 : a = 0 → b = 0 → c = 0 → LL t (d + 1) 226 439 [(2, 38), (0, (k : Int)), (3, 0), (3, 0)] [] v Q := by
    intro e1 e2 e3
    unfold N2 at h
    rw [e1, e2, e3] at h
    refine s_226_439 ⟨g, ?_⟩
    rw [Int.toNat_natCast]
    exact h
  unfold N2 at h
  refine s_226 ?_
  rw [Int.toNat_natCast, h57]
  refine ⟨g, ?_⟩
  rcases ho with ⟨ho, e1, e2, e3⟩ | ⟨rfl, rfl, rfl, rfl⟩ | ⟨rfl, rfl, rfl, rfl⟩ | ⟨rfl, rfl, rfl, rfl⟩
  · have a4 := a3 e1 e2 e3
    rcases ho with rfl | rfl | rfl | rfl | rfl | rfl | rfl
    · iterate 6 refine ⟨fun c => absurd c (by decide), fun _ => ?_⟩
      exact ⟨fun _ => a4, fun c => absurd rfl c⟩
    · iterate 7 refine ⟨fun c => absurd c (by decide), fun _ => ?_⟩
      exact ⟨fun _ => a4, fun c => absurd rfl c⟩
    · iterate 12 refine ⟨fun c => absurd c (by decide), fun _ => ?_⟩
      exact ⟨fun _ => a4, fun c => absurd rfl c⟩
    · iterate 13 refine ⟨fun c => absurd c (by decide), fun _ => ?_⟩
      exact ⟨fun _ => a4, fun c => absurd rfl c⟩
    · iterate 15 refine ⟨fun c => absurd c (by decide), fun _ => ?_⟩
      exact ⟨fun _ => a4, fun c => absurd rfl c⟩
    · iterate 16 refine ⟨fun c => absurd c (by decide), fun _ => ?_⟩
      exact ⟨fun _ => a4, fun c => absurd rfl c⟩
    · iterate 17 refine ⟨fun c => absurd c (by decide), fun _ => ?_⟩
      exact ⟨fun _ => a4, fun c => absurd rfl c⟩
  · iterate 14 refine ⟨fun c => absurd c (by decide), fun _ => ?_⟩
    exact ⟨fun _ => ⟨g, h⟩, fun c => absurd rfl c⟩
  · iterate 18 refine ⟨fun c => absurd c (by decide), fun _ => ?_⟩
    exact ⟨fun _ => ⟨g, h⟩, fun c => absurd rfl c⟩
  · iterate 21 refine ⟨fun c => absurd c (by decide), fun _ => ?_⟩
    exact ⟨fun _ => ⟨g, h⟩, fun c => absurd rfl c⟩
theorem n_c {t : Int} {d k : Nat} {v : Mem} {Q : Int → Mem → Prop} (hk : k < 3300) {o : Int} (h57 : v 57 k = o) (ho : o = 9 ∨ o = 10 ∨ o = 11 ∨ o = 12) (h : RR t d 226 [(2, 38), (0, v 58 k)] v (fun x1 v1 => (x1 < 0 → Q (-1) v1) ∧ (¬ x1 < 0 → ((0 ≤ (k : Int) ∧ (k : Int) < 3300) ∧ RR t d 225 [(2, 38), (0, v1 59 k), (0, x1)] v1 (fun x3 v3 => (x3 = 0 → Q (-1) v3) ∧ (¬ x3 = 0 → Q 0 v3)))))) : RR t (d + 1) 226 [(2, 38), (0, (k : Int))] v Q := by
  have g : 0 ≤ (k : Int) ∧ (k : Int) < 3300 := ⟨by omega, by omega⟩
  have a4 : LL t (d + 1) 226 228 [(2, 38), (0, (k : Int)), (3, 0), (3, 0)] [] v Q := by
    refine s_226_228 ⟨g, ?_⟩
    rw [Int.toNat_natCast]
    exact h
  refine s_226 ?_
  rw [Int.toNat_natCast, h57]
  refine ⟨g, ?_⟩
  rcases ho with rfl | rfl | rfl | rfl
  · iterate 8 refine ⟨fun c => absurd c (by decide), fun _ => ?_⟩
    exact ⟨fun _ => a4, fun c => absurd rfl c⟩
  · iterate 9 refine ⟨fun c => absurd c (by decide), fun _ => ?_⟩
    exact ⟨fun _ => a4, fun c => absurd rfl c⟩
  · iterate 10 refine ⟨fun c => absurd c (by decide), fun _ => ?_⟩
    exact ⟨fun _ => a4, fun c => absurd rfl c⟩
  · iterate 11 refine ⟨fun c => absurd c (by decide), fun _ => ?_⟩
    exact ⟨fun _ => a4, fun c => absurd rfl c⟩
def TyE (t : Int) (u : Nat → Int) (n : Nat) (G : Fn) (L : Sc) (e : Jvm.Term) : Prop := wfE (kd u n) false e → nfE u n G L e = [] → ∀ (lo hi : Nat) (x : Int) (d : Nat) (v : Mem) (Q : Int → Mem → Prop), RN2 v u n G L e lo hi x → hi ≤ 3300 → 2 * hgt e + 1 ≤ d → TC v G L → (tfE u n G L [] e = [] → Q (tyE u n G L e) v) → (∀ p r, tfE u n G L [] e = p :: r → Q (-1) (fl v p)) → RR t d 226 [(2, 38), (0, x)] v Q
def TyA (t : Int) (u : Nat → Int) (n : Nat) (G : Fn) (L : Sc) (e : Jvm.Term) : Prop := wfE (kd u n) true e → nfE u n G L e = [] → ∀ (lo hi : Nat) (x : Int) (d : Nat) (v : Mem) (Q : Int → Mem → Prop) (k f b : Nat) (ds : List Int), RN2 v u n G L e lo hi x → hi ≤ 3300 → 2 * hgt e + 3 ≤ d → TC v G L → k < 3300 → v 58 k = (f : Nat) → f < 20 → argc e = ds.length → b + ds.length ≤ 120 → (∀ j, j < ds.length → v 48 (b + j) = ds.getD j 0) → (tfE u n G L ds e = [] → Q (v 44 f) v) → (∀ p r, tfE u n G L ds e = p :: r → Q (-1) (fl v p)) → LL t d 226 149 [(2, 38), (0, (k : Int)), (0, (b : Int)), (0, x)] [] v Q
theorem ty_all {t : Int} {u : Nat → Int} {n : Nat} {G : Fn} {L : Sc} : ∀ (N : Nat) (e : Jvm.Term), SizeOf.sizeOf e < N → TyE t u n G L e ∧ TyA t u n G L e := by
  intro N
  induction N with
  | zero => intro e he; exact absurd he (Nat.not_lt_zero _)
  | succ N ih =>
    intro e he
    constructor
    · intro hw hnf lo hi x d v Q q hh hd hT hq1 hq2
      obtain ⟨d', rfl⟩ : ∃ d', d = d' + 1 := ⟨d - 1, by omega⟩
      -- one part, of type a
      have part : ∀ (e1 : Jvm.Term) (y lo1 hi1 : Nat) (due : Int) (Q' : Int → Mem → Prop), SizeOf.sizeOf e1 < N → wfE (kd u n) false e1 → nfE u n G L e1 = [] → RN2 v u n G L e1 lo1 hi1 y → y < hi1 → hi1 ≤ 3300 → v 61 y = fstT u n e1 → hgt e1 + 1 ≤ hgt e → (tfE u n G L [] e1 ++ wt due (tyE u n G L e1) (fstT u n e1) = [] → Q' 1 v) → (∀ p r, tfE u n G L [] e1 ++ wt due (tyE u n G L e1) (fstT u n e1) = p :: r → Q' 0 (fl v p)) → RR t d' 225 [(2, 38), (0, (y : Int)), (0, due)] v Q' := by
        intro e1 y lo1 hi1 due Q' hs1 hw1 hn1 hr1 hy hh1 h61 hg h1 h2
        obtain ⟨d2, rfl⟩ : ∃ d2, d' = d2 + 1 := ⟨d' - 1, by omega⟩
        exact iso (by omega) h61 hT (fun Q2 k1 k2 => (ih e1 hs1).1 hw1 hn1 lo1 hi1 y d2 v Q2 hr1 hh1 (by omega) hT k1 k2) h1 h2
      -- one part
      have one : ∀ (e1 : Jvm.Term) (k y : Nat) (o a c : Int), SizeOf.sizeOf e1 < N → wfE (kd u n) false e1 → nfE u n G L e1 = [] → RN2 v u n G L e1 lo k y → y < k → k < hi → v 58 k = y → v 61 y = fstT u n e1 → v 57 k = o → ((o = 5 ∧ a = 0 ∧ c = 0) ∨ (o = 6 ∧ a = 0 ∧ c = 0) ∨ (o = 21 ∧ a = 1 ∧ c = 0) ∨ (o = 23 ∧ a = 0 ∧ c = 1) ∨ (o = 24 ∧ a = 0 ∧ c = 1)) → hgt e = hgt e1 + 1 → tfE u n G L [] e = tfE u n G L [] e1 ++ wt a (tyE u n G L e1) (fstT u n e1) → tyE u n G L e = c → x = k → RR t (d' + 1) 226 [(2, 38), (0, x)] v Q := by
        intro e1 k y o a c hs1 hw1 hn1 hr1 hy hk h58 h61 h57 ho hg htf hty hx
        subst hx
        refine n_1 (by omega) h57 ho ?_
        unfold N1
        rw [h58]
        exact part e1 y lo k a _ hs1 hw1 hn1 hr1 hy (by omega) h61 (by omega) (fun h => ⟨fun c => absurd c (by decide), fun _ => by rw [← hty]; exact hq1 (by rw [htf]; exact h)⟩) (fun p r h => ⟨fun _ => hq2 p r (by rw [htf]; exact h), fun c => absurd rfl c⟩)
      -- two parts
      have two : ∀ (e1 e2 : Jvm.Term) (k y z m : Nat) (o a b c : Int), SizeOf.sizeOf e1 < N → SizeOf.sizeOf e2 < N → wfE (kd u n) false e1 → wfE (kd u n) false e2 → nfE u n G L e1 = [] → nfE u n G L e2 = [] → RN2 v u n G L e1 lo m y → RN2 v u n G L e2 m k z → y < m → m ≤ k → z < k → k < hi → v 58 k = y → v 59 k = z → v 61 y = fstT u n e1 → v 61 z = fstT u n e2 → v 57 k = o → (((o = 7 ∨ o = 8 ∨ o = 13 ∨ o = 14 ∨ o = 16 ∨ o = 17 ∨ o = 18) ∧ a = 0 ∧ b = 0 ∧ c = 0) ∨ (o = 15 ∧ a = 1 ∧ b = 1 ∧ c = 1) ∨ (o = 19 ∧ a = 1 ∧ b = 0 ∧ c = 0) ∨ (o = 22 ∧ a = 1 ∧ b = 1 ∧ c = 0)) → hgt e = max (hgt e1) (hgt e2) + 1 → tfE u n G L [] e = (tfE u n G L [] e1 ++ wt a (tyE u n G L e1) (fstT u n e1)) ++ (tfE u n G L [] e2 ++ wt b (tyE u n G L e2) (fstT u n e2)) → tyE u n G L e = c → x = k → RR t (d' + 1) 226 [(2, 38), (0, x)] v Q := by
        intro e1 e2 k y z m o a b c hs1 hs2 hw1 hw2 hn1 hn2 hr1 hr2 hy hm hz hk h58 h59 h61 h61' h57 ho hg htf hty hx
        subst hx
        refine n_2 (by omega) h57 ho ?_
        unfold N2
        rw [h58]
        refine part e1 y lo m a _ hs1 hw1 hn1 hr1 hy (by omega) h61 (by omega) (fun h => ⟨fun c => absurd c (by decide), fun _ => ⟨⟨by omega, by omega⟩, ?_⟩⟩) (fun p r h => ⟨fun _ => hq2 p _ (by rw [htf, h]; rfl), fun c => absurd rfl c⟩)
        rw [h59]
        exact part e2 z m k b _ hs2 hw2 hn2 hr2 hz (by omega) h61' (by omega) (fun h' => ⟨fun c => absurd c (by decide), fun _ => by rw [← hty]; exact hq1 (by rw [htf, h, h']; rfl)⟩) (fun p r h' => ⟨fun _ => hq2 p r (by rw [htf, h, h']; rfl), fun c => absurd rfl c⟩)
      unfold RN2 at q
      split at q
      · exact hw.elim
      · exact hw.elim
      · rename_i i
        obtain ⟨k, h1, h2, h3, l1, l2, l3, l4⟩ := q
        subst h1
        have g : 0 ≤ (k : Int) ∧ (k : Int) < 3300 := ⟨by omega, by omega⟩
        have hty : tyE u n G L (.arg i) = (if kd u n i = 3 then 0 else if kd u n i = 4 then 1 else slT L (vl u n i)) := rfl
        have hq1 := hq1 rfl
        rw [hty] at hq1
        refine s_226 ?_
        rw [Int.toNat_natCast]
        rcases l4 with e | e | e
        · rw [(l1 e).1]
          rw [if_pos e] at hq1
          exact ⟨g, fun _ => hq1, fun c => absurd rfl c⟩
        · rw [(l2 e).1]
          rw [if_neg (by omega), if_pos e] at hq1
          exact ⟨g, fun c => absurd c (by decide), fun _ => ⟨fun _ => hq1, fun c => absurd rfl c⟩⟩
        · rw [(l3 e).1, (l3 e).2]
          rw [if_neg (by omega), if_neg (by omega)] at hq1
          have hs : ¬ slt L (vl u n i) = -1 := fun h => by
            have : (if kd u n i = 2 ∧ slt L (vl u n i) = -1 then [ps u n i] else []) = [] := hnf
            rw [if_pos ⟨e, h⟩] at this
            cases this
          rcases slt_r L (vl u n i) with h | ⟨j, h, hj, -⟩
          · exact absurd h hs
          · have hl := hT.2.1.1
            have e5 := (hT.2.1.2 j hj).1
            have es : slT L (vl u n i) = v 65 j := by
              unfold slT
              rw [h, if_neg (by omega), Int.toNat_natCast, e5]
            rw [es] at hq1
            rw [h, Int.toNat_natCast]
            exact ⟨g, fun c => absurd c (by decide), fun _ => ⟨fun c => absurd c (by decide), fun _ => ⟨fun _ => ⟨g, ⟨by omega, by omega⟩, hq1⟩, fun c => absurd rfl c⟩⟩⟩
      · rename_i i e1
        exact (ih e1 (by simp at he; omega)).1 hw hnf lo hi x (d' + 1) v Q q hh hd hT hq1 hq2
      · rename_i i e1
        obtain ⟨k, y, h1, h2, h3, h4, h5, h6, h7, h8⟩ := q
        refine one e1 k y _ 0 0 (by simp at he; omega) hw.2 hnf h7 h3 h4 h6 h8 h5 ?_ rfl rfl rfl h1
        rcases hw.1 with e | e
        · rw [if_pos e]; exact Or.inl ⟨rfl, rfl, rfl⟩
        · rw [if_neg (by omega)]; exact Or.inr (Or.inl ⟨rfl, rfl, rfl⟩)
      · rename_i i l r
        obtain ⟨k, y, z, m, h1, h2, h3, h4, h5, h6, h7, h8, h9, g1, g2, g3, g4⟩ := q
        have hnf : nfE u n G L l ++ nfE u n G L r = [] := hnf
        obtain ⟨hnl, hnr⟩ := List.append_eq_nil_iff.mp hnf
        have hlv : lvl (kd u n i) < 5 := hw.1
        have htf : tfE u n G L [] (.add (.arg i) (.sub l r)) = (if lvl (kd u n i) = 2 then tfE u n G L [] l ++ (tfE u n G L [] r ++ wt (tyE u n G L l) (tyE u n G L r) (fstT u n r))
          else tfE u n G L [] l ++ (wt (if kd u n i = 38 then 1 else 0) (tyE u n G L l) (fstT u n l) ++ (tfE u n G L [] r ++ wt (if kd u n i = 38 then 1 else 0) (tyE u n G L r) (fstT u n r)))) := rfl
        have hty : tyE u n G L (.add (.arg i) (.sub l r)) = (if kd u n i = 38 then 1 else 0) := rfl
        by_cases e2 : lvl (kd u n i) = 2
        · rw [if_pos e2] at htf
          have ek := lvl_2.mp e2
          rw [hty, if_neg (by omega)] at hq1
          rw [htf] at hq1 hq2
          have hg : hgt (.add (.arg i) (.sub l r)) = max (hgt l) (hgt r) + 1 := rfl
          rw [hg] at hd
          subst h1
          have ho : opc (kd u n i) = 9 ∨ opc (kd u n i) = 10 ∨ opc (kd u n i) = 11 ∨ opc (kd u n i) = 12 := by
            rcases ek with e | e | e | e <;> (rw [e]; decide)
          refine n_c (by omega) h7 ho ?_
          rw [h8]
          have hn := hT.tyn (u := u) (n := n) _ l (Nat.lt_succ_self _)
          refine (ih l (by simp at he; omega)).1 hw.2.1 hnl lo m y d' v _ g1 (by omega) (by omega) hT (fun h => ⟨fun c => absurd c (by omega), fun _ => ⟨⟨by omega, by omega⟩, ?_⟩⟩) (fun p r' h => ⟨fun _ => hq2 p _ (by rw [h]; rfl), fun c => absurd (by decide) c⟩)
          rw [h9]
          exact part r z m k _ _ (by simp at he; omega) hw.2.2 hnr g3 (by omega) (by omega) g4 (by rw [hg]; omega) (fun h' => ⟨fun c => absurd c (by decide), fun _ => hq1 (by rw [h, h']; rfl)⟩) (fun p r h' => ⟨fun _ => hq2 p r (by rw [h, h']; rfl), fun c => absurd rfl c⟩)
        · rw [if_neg e2, ← List.append_assoc] at htf
          refine two l r k y z m _ (if kd u n i = 38 then 1 else 0) (if kd u n i = 38 then 1 else 0) (if kd u n i = 38 then 1 else 0) (by simp at he; omega) (by simp at he; omega) hw.2.1 hw.2.2 hnl hnr g1 g3 h3 (by omega) h5 h6 h8 h9 g2 g4 h7 ?_ rfl htf hty h1
          by_cases k38 : kd u n i = 38
          · rw [k38]
            exact Or.inr (Or.inl ⟨by decide, rfl, rfl, rfl⟩)
          · rw [if_neg k38]
            refine Or.inl ⟨?_, rfl, rfl, rfl⟩
            have : kd u n i = 20 ∨ kd u n i = 10 ∨ kd u n i = 43 ∨ kd u n i = 45 ∨ kd u n i = 42 ∨ kd u n i = 47 ∨ kd u n i = 37 := by
              unfold lvl at hlv e2
              split at hlv
              · omega
              · split at hlv
                · omega
                · split at hlv
                  · rename_i a b c
                    rw [if_neg a, if_neg b, if_pos c] at e2
                    exact absurd rfl e2
                  · split at hlv
                    · omega
                    · split at hlv
                      · omega
                      · omega
            rcases this with e | e | e | e | e | e | e <;> (rw [e]; decide)
      · rename_i s e1
        obtain ⟨k, y, z, m, h1, h2, h3, h4, h5, h6, h7, h8, h9, g1, g2, g3, g4⟩ := q
        have hnf : nfE u n G L s ++ nfE u n G L e1 = [] := hnf
        obtain ⟨hnl, hnr⟩ := List.append_eq_nil_iff.mp hnf
        exact two s e1 k y z m _ 1 0 0 (by simp at he; omega) (by simp at he; omega) hw.1 hw.2 hnl hnr g1 g3 h3 (by omega) h5 h6 h8 h9 g2 g4 h7 (Or.inr (Or.inr (Or.inl ⟨rfl, rfl, rfl, rfl⟩))) rfl (by rw [List.append_assoc]; rfl) rfl h1
      · rename_i s a b
        obtain ⟨k, y, z, w, m, m', h1, h2, h3, h4, h5, h6, h7, h8, b1, b2, b3, b4, g1, g2, g3, g4, g5, g6⟩ := q
        subst h1
        obtain ⟨w1, w2, w3⟩ := hw
        have hnf : nfE u n G L s ++ (nfE u n G L a ++ nfE u n G L b) = [] := hnf
        obtain ⟨hn1, hn23⟩ := List.append_eq_nil_iff.mp hnf
        obtain ⟨hn2, hn3⟩ := List.append_eq_nil_iff.mp hn23
        have hg : hgt (.rem s (.sub a b)) = max (hgt s) (max (hgt a) (hgt b)) + 1 := rfl
        have htf : tfE u n G L [] (.rem s (.sub a b)) = (tfE u n G L [] s ++ wt 1 (tyE u n G L s) (fstT u n s)) ++ ((tfE u n G L [] a ++ wt 0 (tyE u n G L a) (fstT u n a)) ++ (tfE u n G L [] b ++ wt 0 (tyE u n G L b) (fstT u n b))) := by
          rw [List.append_assoc, List.append_assoc]; rfl
        rw [htf] at hq1 hq2
        have g : 0 ≤ (k : Int) ∧ (k : Int) < 3300 := ⟨by omega, by omega⟩
        refine s_226 ?_
        rw [Int.toNat_natCast, b1]
        refine ⟨g, ?_⟩
        iterate 19 refine ⟨fun c => absurd c (by decide), fun _ => ?_⟩
        refine ⟨fun _ => ⟨g, ?_⟩, fun c => absurd rfl c⟩
        rw [b2]
        refine part s y lo m 1 _ (by simp at he; omega) w1 hn1 g1 h3 (by omega) g2 (by rw [hg]; omega) (fun h => ⟨fun c => absurd c (by decide), fun _ => ⟨g, ?_⟩⟩) (fun p r h => ⟨fun _ => hq2 p _ (by rw [h]; rfl), fun c => absurd rfl c⟩)
        rw [b3]
        refine part a z m m' 0 _ (by simp at he; omega) w2 hn2 g3 h5 (by omega) g4 (by rw [hg]; omega) (fun h' => ⟨fun c => absurd c (by decide), fun _ => ⟨g, ?_⟩⟩) (fun p r h' => ⟨fun _ => hq2 p _ (by rw [h, h']; rfl), fun c => absurd rfl c⟩)
        rw [b4]
        exact part b w m' k 0 _ (by simp at he; omega) w3 hn3 g5 h7 (by omega) g6 (by rw [hg]; omega) (fun h'' => ⟨fun c => absurd c (by decide), fun _ => hq1 (by rw [h, h', h'']; rfl)⟩) (fun p r h'' => ⟨fun _ => hq2 p r (by rw [h, h', h'']; rfl), fun c => absurd rfl c⟩)
      · rename_i i e1
        obtain ⟨k, y, h1, h2, h3, h4, h5, h6, h7, h8⟩ := q
        have hty : tyE u n G L (.op2 .iand (.arg i) e1) = (if kd u n i = 18 then 0 else 1) := rfl
        refine one e1 k y _ (if kd u n i = 18 then 1 else 0) (if kd u n i = 18 then 0 else 1) (by simp at he; omega) hw.2 hnf h7 h3 h4 h6 h8 h5 ?_ rfl rfl hty h1
        rcases hw.1 with e | e | e <;> (rw [e]; decide)
      · rename_i i a b
        obtain ⟨k, y, z, m, h1, h2, h3, h4, h5, h6, h7, h8, h9, g1, g2, g3, g4⟩ := q
        have hnf : nfE u n G L a ++ nfE u n G L b = [] := hnf
        obtain ⟨hnl, hnr⟩ := List.append_eq_nil_iff.mp hnf
        exact two a b k y z m _ 1 1 0 (by simp at he; omega) (by simp at he; omega) hw.1 hw.2 hnl hnr g1 g3 h3 (by omega) h5 h6 h8 h9 g2 g4 h7 (Or.inr (Or.inr (Or.inr ⟨rfl, rfl, rfl, rfl⟩))) rfl (by rw [List.append_assoc]; rfl) rfl h1
      · rename_i i as
        obtain ⟨k, h1, h2, h3, h4, h5, h7⟩ := q
        subst h1
        obtain ⟨k2, hwa⟩ := hw
        have hg : hgt (.op2 .ixor (.arg i) as) = hgt as + 1 := rfl
        rw [hg] at hd
        have hnf : (if fno G (vl u n i) = -1 ∨ ¬ (fnP G (vl u n i)).length = argc as then [ps u n i] else []) ++ nfE u n G L as = [] := hnf
        obtain ⟨hn1, hn2⟩ := List.append_eq_nil_iff.mp hnf
        have hc : ¬ (fno G (vl u n i) = -1 ∨ ¬ (fnP G (vl u n i)).length = argc as) := fun h => by
          rw [if_pos h] at hn1
          cases hn1
        obtain ⟨j, ej, hj, -⟩ : ∃ j : Nat, fno G (vl u n i) = j ∧ j < G.length ∧ (G.getD j (0, [], 0)).1 = vl u n i := by
          rcases fno_r G (vl u n i) with e | e
          · exact absurd (Or.inl e) hc
          · exact e
        have hP : fnP G (vl u n i) = (G.getD j (0, [], 0)).2.1 := by
          unfold fnP
          rw [ej, if_neg (by omega), Int.toNat_natCast]
        have hTy : fnT G (vl u n i) = (G.getD j (0, [], 0)).2.2 := by
          unfold fnT
          rw [ej, if_neg (by omega), Int.toNat_natCast]
        have hGl := hT.2.2.1
        obtain ⟨t1, t2, t3, t4⟩ := hT.2.2.2 j hj
        have htf : tfE u n G L [] (.op2 .ixor (.arg i) as) = tfE u n G L (fnP G (vl u n i)) as := rfl
        have hty : tyE u n G L (.op2 .ixor (.arg i) as) = fnT G (vl u n i) := rfl
        rw [hty, hTy, htf, hP, ← t1] at hq1
        rw [htf, hP] at hq2
        have g : 0 ≤ (k : Int) ∧ (k : Int) < 3300 := ⟨by omega, by omega⟩
        refine s_226 ?_
        rw [Int.toNat_natCast, h4, h5, ej]
        refine ⟨g, fun c => absurd c (by decide), fun _ => ⟨fun c => absurd c (by decide), fun _ => ⟨fun c => absurd c (by decide), fun _ => ⟨fun _ => ⟨g, g, ?_⟩, fun c => absurd rfl c⟩⟩⟩⟩
        rw [w6a (by omega)]
        refine (ih as (by simp at he; omega)).2 hwa hn2 (k + 1) hi _ (d' + 1) v Q k j (6 * j) _ h7 hh (by omega) hT (by omega) (by rw [h5, ej]) (by omega) ?_ (by omega) t4 hq1 hq2
        rw [← hP]
        omega
      · exact q.elim
    · intro hw hnf lo hi x d v Q k f b ds q hh hd hT hk hf hf2 hac hb h48 hq1 hq2
      obtain ⟨d', rfl⟩ : ∃ d', d = d' + 1 := ⟨d - 1, by omega⟩
      match e, he, hw, hnf, q, hd, hac, hq1, hq2 with
      | .null, he, hw, hnf, q, hd, hac, hq1, hq2 =>
        have q2 : lo ≤ hi ∧ x = -1 := q
        rw [q2.2]
        refine s_226_149 ⟨fun _ => ⟨⟨by omega, by omega⟩, ?_⟩, fun c => absurd (by decide) c⟩
        rw [Int.toNat_natCast, hf, Int.toNat_natCast]
        exact ⟨⟨by omega, by omega⟩, hq1 rfl⟩
      | .sub a r, he, hw, hnf, q, hd, hac, hq1, hq2 =>
        obtain ⟨y, m, h1, h2, h3, h4, h5, h6, h7⟩ := q
        have hg : hgt (.sub a r) = max (hgt a) (hgt r) := rfl
        have hnf : nfE u n G L a ++ nfE u n G L r = [] := hnf
        obtain ⟨hn1, hn2⟩ := List.append_eq_nil_iff.mp hnf
        have hac : argc r + 1 = ds.length := hac
        rw [hg] at hd
        subst h1
        match ds, hac, hb, h48, hq1, hq2 with
        | [], hac, hb, h48, hq1, hq2 => rw [List.length_nil] at hac; omega
        | dd :: ds, hac, hb, h48, hq1, hq2 =>
          rw [List.length_cons] at hac hb h48
          have htf : tfE u n G L (dd :: ds) (.sub a r) = (tfE u n G L [] a ++ wt dd (tyE u n G L a) (fstT u n a)) ++ tfE u n G L ds r := by
            rw [List.append_assoc]; rfl
          rw [htf] at hq1 hq2
          obtain ⟨d2, rfl⟩ : ∃ d2, d' = d2 + 1 := ⟨d' - 1, by omega⟩
          have h480 := h48 0 (by omega)
          rw [Nat.add_zero] at h480
          refine s_226_149 ⟨fun c => absurd c (by omega), fun _ => ⟨⟨by omega, by omega⟩, ?_⟩⟩
          rw [Int.toNat_natCast, Int.toNat_natCast, h480]
          refine iso (due := dd) (by omega) h6 hT (fun Q2 k1 k2 => (ih a (by simp at he; omega)).1 hw.1 hn1 lo m y d2 v Q2 h5 (by omega) (by omega) hT k1 k2) (fun h => ⟨fun c => absurd c (by decide), fun _ => ⟨⟨by omega, by omega⟩, ?_⟩⟩) (fun p r' h => ⟨fun _ => hq2 p _ (by rw [h]; rfl), fun c => absurd rfl c⟩)
          rw [wS (k := b) (m := 120) (by omega) (by decide)]
          exact (ih r (by simp at he; omega)).2 hw.2 hn2 m hi _ (d2 + 1 + 1) v Q k f (b + 1) ds h7 hh (by omega) hT hk hf hf2 (by omega) (by omega) (fun j hj => by
            have := h48 (j + 1) (by omega)
            rw [show b + 1 + j = b + (j + 1) by omega]
            exact this) (fun h' => hq1 (by rw [h, h']; rfl)) (fun p r' h' => hq2 p r' (by rw [h, h']; rfl))
