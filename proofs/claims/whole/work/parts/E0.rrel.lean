/-! The reference while a PROGRAM runs: what stands in it. -/
/-- blocks: number in its rows, place, size, how many were made before; in the order of the places -/
abbrev Jb : Type := List (Nat × Nat × Nat × Nat)
def blk (J : Jb) : Hp := J.map (fun j => j.2)
/-- a row and its type -/
abbrev TyR : Type := Rw × Int
/-- a frame: locals in scope, rows of others, parts of an E -/
abbrev Fr : Type := List TyR × Nat × List TyR
def rws (l : List TyR) : List Rw := l.map (fun x => x.1)
/-- all rows, as the class has them -/
def flat : List Fr → List Rw
  | [] => []
  | f :: r => (rws f.1 ++ (zr f.2.1 ++ rws f.2.2)) ++ flat r
def tmps : List Fr → List TyR
  | [] => []
  | f :: r => f.2.2 ++ tmps r
theorem rws_app {l m : List TyR} : rws (l ++ m) = rws l ++ rws m := List.map_append ..
theorem rws_len {l : List TyR} : (rws l).length = l.length := List.length_map ..
theorem flat_app : ∀ (P R : List Fr), flat (P ++ R) = flat P ++ flat R := by
  intro P
  induction P with
  | nil => intro R; rfl
  | cons f P ih =>
    intro R
    show (rws f.1 ++ (zr f.2.1 ++ rws f.2.2)) ++ flat (P ++ R) = ((rws f.1 ++ (zr f.2.1 ++ rws f.2.2)) ++ flat P) ++ flat R
    rw [ih]
    simp only [List.append_assoc]
theorem tmps_app : ∀ (P R : List Fr), tmps (P ++ R) = tmps P ++ tmps R := by
  intro P
  induction P with
  | nil => intro R; rfl
  | cons f P ih =>
    intro R
    show f.2.2 ++ tmps (P ++ R) = (f.2.2 ++ tmps P) ++ tmps R
    rw [ih, List.append_assoc]
theorem flat_1 {P : List Fr} {Y X : List TyR} {e : Nat} : flat (P ++ [(Y, e, X)]) = flat P ++ (rws Y ++ (zr e ++ rws X)) := by
  rw [flat_app]
  show flat P ++ ((rws Y ++ (zr e ++ rws X)) ++ []) = _
  rw [List.append_nil]
theorem tmps_1 {P : List Fr} {Y X : List TyR} {e : Nat} : tmps (P ++ [(Y, e, X)]) = tmps P ++ X := by
  rw [tmps_app]
  show tmps P ++ (X ++ []) = _
  rw [List.append_nil]
theorem flat_T {P : List Fr} {Y X T : List TyR} {e : Nat} : flat (P ++ [(Y, e, X ++ T)]) = flat (P ++ [(Y, e, X)]) ++ rws T := by
  rw [flat_1, flat_1, rws_app]
  simp only [List.append_assoc]
theorem tmps_T {P : List Fr} {Y X T : List TyR} {e : Nat} : tmps (P ++ [(Y, e, X ++ T)]) = tmps (P ++ [(Y, e, X)]) ++ T := by
  rw [tmps_1, tmps_1, List.append_assoc]
/-- a row of the class's, of type ty, is x y w of the reference's -/
def rrw (J : Jb) (n : Nat) (r : Rw) (ty x y w : Int) : Prop :=
  (ty = 0 ∧ r = (-1, w, 0) ∧ x = -1 ∧ -2147483648 ≤ w ∧ w < 2147483648) ∨
  (ty = 1 ∧ (∃ a : Int, r = (-1, a, 0) ∧ -2147483648 ≤ a ∧ a < 2147483648) ∧ x = -1 ∧ w = 0) ∨
  (ty = 1 ∧ ∃ s c : Nat, r = (-1, (s : Int), (c : Int)) ∧ 1 ≤ c ∧ s + c ≤ n ∧ x = -2 ∧ y = (s : Int) ∧ w = (c : Int)) ∨
  (ty = 1 ∧ ∃ j ∈ J, ∃ o c : Nat, r = (((j.2.1 : Nat) : Int), ((3000 + j.2.1 + o : Nat) : Int), (c : Int)) ∧ 1 ≤ c ∧ o + c + 1 ≤ j.2.2.1 ∧ x = ((j.1 : Nat) : Int) ∧ y = (o : Int) ∧ w = (c : Int))
/-- the reference's blocks -/
def RHb (v : Mem) (z : Nat) (J : Jb) : Prop := (hok z 0 (blk J) ∧ v 38 65 = (z : Int) ∧ z ≤ 4000 ∧ v 38 73 = ((hsum (blk J) : Nat) : Int)) ∧ (∃ hg : Nat, v 38 74 = (hg : Int) ∧ hg ≤ 2001 ∧ ∀ j ∈ J, j.1 < hg) ∧ (∀ j ∈ J, v 73 j.1 = ((j.2.1 : Nat) : Int) ∧ v 74 j.1 = ((j.2.2.1 : Nat) : Int) ∧ v 75 j.1 = ((j.2.2.2 : Nat) : Int)) ∧ (∀ k, k < 2001 → (∀ j ∈ J, j.1 ≠ k) → v 73 k = -1) ∧ (∀ j ∈ J, ∀ p, j.2.1 ≤ p → p < j.2.1 + j.2.2.1 → v 78 p = ((j.1 : Nat) : Int)) ∧ (∀ p, p < 4000 → (∀ j ∈ J, ¬ (j.2.1 ≤ p ∧ p < j.2.1 + j.2.2.1)) → v 78 p = -1)
/-- parts of E's -/
def RSt (v : Mem) (n : Nat) (J : Jb) (X : List TyR) : Prop := v 38 52 = ((X.length : Nat) : Int) ∧ X.length ≤ 1500 ∧ ∀ i, i < X.length → rrw J n (X.getD i ((-1, 0, 0), 0)).1 (X.getD i ((-1, 0, 0), 0)).2 (v 66 i) (v 67 i) (v 68 i)
/-- locals of frame f -/
def RLf (v : Mem) (n : Nat) (J : Jb) (f : Nat) (Y : List TyR) : Prop := v 72 f = ((Y.length : Nat) : Int) ∧ Y.length ≤ 30 ∧ ∀ k, k < Y.length → rrw J n (Y.getD k ((-1, 0, 0), 0)).1 (Y.getD k ((-1, 0, 0), 0)).2 (v 69 (30 * f + k)) (v 70 (30 * f + k)) (v 71 (30 * f + k)) ∧ v 80 (30 * f + k) = (Y.getD k ((-1, 0, 0), 0)).2
def RLo (v : Mem) (n : Nat) (J : Jb) : Nat → List Fr → Prop
  | _, [] => True
  | f, x :: r => RLf v n J f x.1 ∧ RLo v n J (f + 1) r
/-- numbers, what was told -/
def RNu (v : Mem) (en : Int) (dp : Nat) (F : Nat) (ρ : Rho) : Prop := (v 38 57 = (F : Nat) ∧ v 38 58 = (dp : Nat) ∧ F ≤ dp ∧ dp ≤ 12) ∧ (v 38 66 = en ∧ v 38 67 = 0 ∧ v 38 78 = 0) ∧ (v 38 68 = (rN ρ : Nat) ∧ v 38 69 = (rK ρ : Nat) ∧ v 38 70 = (rM ρ : Nat) ∧ v 38 72 = ((rT ρ).length : Nat)) ∧ (rN ρ ≤ 20000 ∧ rM ρ ≤ 4000 ∧ (rT ρ).length ≤ 2000) ∧ ∀ i, i < (rT ρ).length → v 79 i = (rT ρ).getD i 0
/-- bytes of the live blocks -/
def RBy (v : Mem) (ρ : Rho) : Prop := ∀ b ∈ rH ρ, ∀ j, j + 1 < b.2.1 → v 77 (b.1 + j) = rB ρ (b.1 + j) ∧ -128 ≤ rB ρ (b.1 + j) ∧ rB ρ (b.1 + j) < 128
/-- what a run leaves alone -/
def RFx (v0 v : Mem) : Prop := (∀ c, (c < 66 ∨ 81 < c) → c ≠ 38 → v c = v0 c) ∧ ∀ k, (k < 49 ∨ 81 < k) → v 38 k = v0 38 k
def RX (v0 : Mem) (n z dp : Nat) (en : Int) (J : Jb) (FS : List Fr) (ρ : Rho) (v : Mem) : Prop := RHb v z J ∧ rH ρ = gc (flat FS) z0 (blk J) ∧ RSt v n J (tmps FS) ∧ RLo v n J 0 FS ∧ RNu v en dp FS.length ρ ∧ RBy v ρ ∧ RFx v0 v
/-- the run has ended at once -/
def RE (v0 : Mem) (n z dp : Nat) (e : Int × Rho) (v : Mem) : Prop := ∃ J FS, RX v0 n z dp e.1 J FS e.2 v
theorem RHb.same {v v' : Mem} {z : Nat} {J : Jb} (h : RHb v z J) (h1 : v' 38 65 = v 38 65) (h2 : v' 38 73 = v 38 73) (h3 : v' 38 74 = v 38 74) (h4 : ∀ c, (c = 73 ∨ c = 74 ∨ c = 75 ∨ c = 78) → v' c = v c) : RHb v' z J := by
  obtain ⟨⟨a1, a2, a3, a4⟩, a5, a6, a7, a8, a9⟩ := h
  refine ⟨⟨a1, by rw [h1]; exact a2, a3, by rw [h2]; exact a4⟩, by rw [h3]; exact a5, ?_, ?_, ?_, ?_⟩
  · rw [h4 73 (by omega), h4 74 (by omega), h4 75 (by omega)]; exact a6
  · rw [h4 73 (by omega)]; exact a7
  · rw [h4 78 (by omega)]; exact a8
  · rw [h4 78 (by omega)]; exact a9
theorem RSt.same {v v' : Mem} {n : Nat} {J : Jb} {X : List TyR} (h : RSt v n J X) (h1 : v' 38 52 = v 38 52) (h4 : ∀ c, (c = 66 ∨ c = 67 ∨ c = 68) → v' c = v c) : RSt v' n J X := by
  obtain ⟨a1, a2, a3⟩ := h
  exact ⟨by rw [h1]; exact a1, a2, by rw [h4 66 (by omega), h4 67 (by omega), h4 68 (by omega)]; exact a3⟩
theorem RLf.same {v v' : Mem} {n : Nat} {J : Jb} {f : Nat} {Y : List TyR} (h : RLf v n J f Y) (h1 : v' 72 f = v 72 f) (h4 : ∀ c k, (c = 69 ∨ c = 70 ∨ c = 71 ∨ c = 80) → 30 * f ≤ k → k < 30 * f + Y.length → v' c k = v c k) : RLf v' n J f Y := by
  obtain ⟨a1, a2, a3⟩ := h
  refine ⟨by rw [h1]; exact a1, a2, fun k hk => ?_⟩
  rw [h4 69 _ (by omega) (by omega) (by omega), h4 70 _ (by omega) (by omega) (by omega), h4 71 _ (by omega) (by omega) (by omega), h4 80 _ (by omega) (by omega) (by omega)]
  exact a3 k hk
theorem RLo.same {v v' : Mem} {n : Nat} {J : Jb} (h4 : ∀ c, (c = 69 ∨ c = 70 ∨ c = 71 ∨ c = 72 ∨ c = 80) → v' c = v c) : ∀ (FS : List Fr) (f : Nat), RLo v n J f FS → RLo v' n J f FS := by
  intro FS
  induction FS with
  | nil => intro f _; trivial
  | cons x r ih =>
    intro f h
    exact ⟨h.1.same (by rw [h4 72 (by omega)]) (fun c k hc _ _ => by rw [h4 c (by omega)]), ih _ h.2⟩
theorem RLo_app {v : Mem} {n : Nat} {J : Jb} : ∀ (P R : List Fr) (f : Nat), RLo v n J f (P ++ R) ↔ RLo v n J f P ∧ RLo v n J (f + P.length) R := by
  intro P
  induction P with
  | nil => intro R f; exact ⟨fun h => ⟨trivial, h⟩, fun h => h.2⟩
  | cons x P ih =>
    intro R f
    show RLf v n J f x.1 ∧ RLo v n J (f + 1) (P ++ R) ↔ (RLf v n J f x.1 ∧ RLo v n J (f + 1) P) ∧ RLo v n J (f + (P.length + 1)) R
    rw [ih R (f + 1), show f + 1 + P.length = f + (P.length + 1) from by omega]
    exact ⟨fun h => ⟨⟨h.1, h.2.1⟩, h.2.2⟩, fun h => ⟨h.1.1, h.1.2, h.2⟩⟩
theorem RNu.same {v v' : Mem} {en : Int} {dp F : Nat} {ρ : Rho} (h : RNu v en dp F ρ) (h1 : ∀ k, (k = 57 ∨ k = 58 ∨ k = 66 ∨ k = 67 ∨ k = 68 ∨ k = 69 ∨ k = 70 ∨ k = 72 ∨ k = 78) → v' 38 k = v 38 k) (h4 : v' 79 = v 79) : RNu v' en dp F ρ := by
  unfold RNu at h ⊢
  rw [h1 57 (by omega), h1 58 (by omega), h1 66 (by omega), h1 67 (by omega), h1 68 (by omega), h1 69 (by omega), h1 70 (by omega), h1 72 (by omega), h1 78 (by omega), h4]
  exact h
theorem RFx.trans {v0 v v' : Mem} (h : RFx v0 v) (h1 : ∀ c, (c < 66 ∨ 81 < c) → c ≠ 38 → v' c = v c) (h2 : ∀ k, (k < 49 ∨ 81 < k) → v' 38 k = v 38 k) : RFx v0 v' := ⟨fun c a b => (h1 c a b).trans (h.1 c a b), fun k a => (h2 k a).trans (h.2 k a)⟩
/-- rows that refer to fewer blocks -/
theorem gc_sub {S S' : List Rw} {H : Hp} (h : ∀ b ∈ H, 0 < cnt b.1 S' → 0 < cnt b.1 S) : gc S' z0 (gc S z0 H) = gc S' z0 H := by
  unfold gc
  rw [List.filter_filter]
  refine List.filter_congr (fun b hb => ?_)
  show (decide (0 < cnt b.1 S' + z0 b.1) && decide (0 < cnt b.1 S + z0 b.1)) = decide (0 < cnt b.1 S' + z0 b.1)
  by_cases c : 0 < cnt b.1 S' + z0 b.1
  · have := h b hb c
    rw [decide_eq_true c, decide_eq_true (show 0 < cnt b.1 S + z0 b.1 from this)]
    rfl
  · rw [decide_eq_false c]
    rfl
theorem gd_app1 {α : Type} {l m : List α} {k : Nat} {d : α} (h : k < l.length) : (l ++ m).getD k d = l.getD k d := by
  rw [List.getD_eq_getElem?_getD, List.getD_eq_getElem?_getD, List.getElem?_append_left h]
/-- the top rows T go, r comes -/
theorem RX.put {v0 v v' : Mem} {n z dp : Nat} {en : Int} {J : Jb} {P : List Fr} {Y X T : List TyR} {e : Nat} {ρ : Rho} {r : Rw} {ty x y w : Int} (h : RX v0 n z dp en J (P ++ [(Y, e, X ++ T)]) ρ v) (hr : rrw J n r ty x y w) (hb : ∀ p : Nat, r.1 = (p : Int) → 0 < cnt p (flat (P ++ [(Y, e, X ++ T)]))) (hl : (tmps (P ++ [(Y, e, X)])).length < 1500)
    (h52 : v' 38 52 = (((tmps (P ++ [(Y, e, X)])).length + 1 : Nat) : Int)) (hk : ∀ k, k ≠ 52 → v' 38 k = v 38 k) (hc : ∀ c, c ≠ 38 → c ≠ 66 → c ≠ 67 → c ≠ 68 → v' c = v c) (hlow : ∀ c i, (c = 66 ∨ c = 67 ∨ c = 68) → i < (tmps (P ++ [(Y, e, X)])).length → v' c i = v c i)
    (hx : v' 66 (tmps (P ++ [(Y, e, X)])).length = x) (hy : v' 67 (tmps (P ++ [(Y, e, X)])).length = y) (hw : v' 68 (tmps (P ++ [(Y, e, X)])).length = w) :
    RX v0 n z dp en J (P ++ [(Y, e, X ++ [(r, ty)])]) (wH ρ (gc (flat (P ++ [(Y, e, X ++ [(r, ty)])])) z0 (rH ρ))) v' := by
  obtain ⟨a1, a2, a3, a4, a5, a6, a7⟩ := h
  have lenS : (P ++ [(Y, e, X ++ [(r, ty)])]).length = (P ++ [(Y, e, X ++ T)]).length := by rw [List.length_append, List.length_append]; rfl
  refine ⟨a1.same (hk _ (by decide)) (hk _ (by decide)) (hk _ (by decide)) (fun c hc' => hc c (by omega) (by omega) (by omega) (by omega)), ?_, ⟨?_, ?_, fun i hi => ?_⟩, ?_, ?_, ?_, a7.trans (fun c c1 c2 => hc c c2 (by omega) (by omega) (by omega)) (fun k hk' => hk k (by omega))⟩
  · show gc (flat (P ++ [(Y, e, X ++ [(r, ty)])])) z0 (rH ρ) = _
    rw [a2]
    refine gc_sub (fun b hb' hp => ?_)
    rw [flat_T, cnt_app] at hp ⊢
    by_cases c : r.1 = ((b.1 : Nat) : Int)
    · have := hb b.1 c
      rwa [flat_T, cnt_app] at this
    · have e0 : cnt b.1 (rws [(r, ty)]) = 0 := by
        show (if r.1 = ((b.1 : Nat) : Int) then 1 else 0) + 0 = 0
        rw [if_neg c]
      omega
  · rw [h52, tmps_T, List.length_append]; rfl
  · rw [tmps_T, List.length_append]; show _ + 1 ≤ 1500; omega
  · rw [tmps_T, List.length_append] at hi
    have hi : i < (tmps (P ++ [(Y, e, X)])).length + 1 := hi
    rw [tmps_T]
    by_cases c : i = (tmps (P ++ [(Y, e, X)])).length
    · subst c
      have e0 := gdA (l := tmps (P ++ [(Y, e, X)])) (m := [(r, ty)]) (k := 0) (d := ((-1, 0, 0), 0))
      rw [Nat.add_zero] at e0
      rw [e0, hx, hy, hw]
      exact hr
    · rw [gd_app1 (by omega), hlow 66 i (by omega) (by omega), hlow 67 i (by omega) (by omega), hlow 68 i (by omega) (by omega)]
      have q := a3.2.2 i (by rw [tmps_T, List.length_append]; omega)
      rw [tmps_T, gd_app1 (by omega)] at q
      exact q
  · have a4 := (RLo_app _ _ _).mp a4
    refine (RLo_app _ _ _).mpr ⟨RLo.same (fun c hc' => hc c (by omega) (by omega) (by omega) (by omega)) _ _ a4.1, ?_⟩
    exact ⟨a4.2.1.same (by rw [hc 72 (by decide) (by decide) (by decide) (by decide)]) (fun c k hc' _ _ => by rw [hc c (by omega) (by omega) (by omega) (by omega)]), trivial⟩
  · rw [lenS]
    exact a5.same (fun k hk' => hk k (by omega)) (hc 79 (by decide) (by decide) (by decide) (by decide))
  · intro b hb' j hj
    rw [hc 77 (by decide) (by decide) (by decide) (by decide)]
    exact a6 b (gc_in.mp hb').1 j hj
/-- the top rows T go -/
theorem RX.drop {v0 v v' : Mem} {n z dp : Nat} {en : Int} {J : Jb} {P : List Fr} {Y X T : List TyR} {e : Nat} {ρ : Rho} (h : RX v0 n z dp en J (P ++ [(Y, e, X ++ T)]) ρ v) (h52 : v' 38 52 = (((tmps (P ++ [(Y, e, X)])).length : Nat) : Int)) (hk : ∀ k, k ≠ 52 → v' 38 k = v 38 k) (hc : ∀ c, c ≠ 38 → v' c = v c) :
    RX v0 n z dp en J (P ++ [(Y, e, X)]) (wH ρ (gc (flat (P ++ [(Y, e, X)])) z0 (rH ρ))) v' := by
  obtain ⟨a1, a2, a3, a4, a5, a6, a7⟩ := h
  have lenS : (P ++ [(Y, e, X)]).length = (P ++ [(Y, e, X ++ T)]).length := by rw [List.length_append, List.length_append]; rfl
  refine ⟨a1.same (hk _ (by decide)) (hk _ (by decide)) (hk _ (by decide)) (fun c hc' => hc c (by omega)), ?_, ⟨h52, ?_, fun i hi => ?_⟩, ?_, ?_, ?_, a7.trans (fun c c1 c2 => hc c c2) (fun k hk' => hk k (by omega))⟩
  · show gc (flat (P ++ [(Y, e, X)])) z0 (rH ρ) = _
    rw [a2]
    refine gc_sub (fun b hb' hp => ?_)
    rw [flat_T, cnt_app]
    omega
  · have := a3.2.1
    rw [tmps_T, List.length_append] at this
    omega
  · rw [hc 66 (by decide), hc 67 (by decide), hc 68 (by decide)]
    have q := a3.2.2 i (by rw [tmps_T, List.length_append]; omega)
    rw [tmps_T, gd_app1 hi] at q
    exact q
  · have a4 := (RLo_app _ _ _).mp a4
    refine (RLo_app _ _ _).mpr ⟨RLo.same (fun c hc' => hc c (by omega)) _ _ a4.1, ?_⟩
    exact ⟨a4.2.1.same (by rw [hc 72 (by decide)]) (fun c k hc' _ _ => by rw [hc c (by omega)]), trivial⟩
  · rw [lenS]
    exact a5.same (fun k hk' => hk k (by omega)) (hc 79 (by decide))
  · intro b hb' j hj
    rw [hc 77 (by decide)]
    exact a6 b (gc_in.mp hb').1 j hj
/-- row k of the parts -/
theorem RX.get {v0 v : Mem} {n z dp : Nat} {en : Int} {J : Jb} {P : List Fr} {Y X T : List TyR} {e : Nat} {ρ : Rho} (h : RX v0 n z dp en J (P ++ [(Y, e, X ++ T)]) ρ v) {k : Nat} (hk : k < T.length) : rrw J n (T.getD k ((-1, 0, 0), 0)).1 (T.getD k ((-1, 0, 0), 0)).2 (v 66 ((tmps (P ++ [(Y, e, X)])).length + k)) (v 67 ((tmps (P ++ [(Y, e, X)])).length + k)) (v 68 ((tmps (P ++ [(Y, e, X)])).length + k)) := by
  have q := h.2.2.1.2.2 ((tmps (P ++ [(Y, e, X)])).length + k) (by rw [tmps_T, List.length_append]; omega)
  rw [tmps_T, gdA] at q
  exact q
