/-! The reference calls FUNCTIONS. -/
/-- frames FS, and rows T on top of them that belong to none -/
def RZ (v0 : Mem) (n z dp : Nat) (J : Jb) (FS : List Fr) (T : List TyR) (ρ : Rho) (v : Mem) : Prop := RHb v z J ∧ rH ρ = gc (flat FS ++ rws T) z0 (blk J) ∧ RSt v n J (tmps FS ++ T) ∧ RLo v n J 0 FS ∧ RNu v 0 dp FS.length ρ ∧ RBy v ρ ∧ RFx v0 v
theorem RLo_fr {v : Mem} {n : Nat} {J : Jb} {P : List Fr} {Y X X' : List TyR} {e : Nat} (h : RLo v n J 0 (P ++ [(Y, e, X)])) : RLo v n J 0 (P ++ [(Y, e, X')]) := by
  have h := (RLo_app _ _ _).mp h
  exact (RLo_app _ _ _).mpr ⟨h.1, h.2.1, trivial⟩
theorem RX.toZ {v0 v : Mem} {n z dp : Nat} {J : Jb} {P : List Fr} {Y X T : List TyR} {e : Nat} {ρ : Rho} (h : RX v0 n z dp 0 J (P ++ [(Y, e, X ++ T)]) ρ v) : RZ v0 n z dp J (P ++ [(Y, e, X)]) T ρ v := by
  obtain ⟨a1, a2, a3, a4, a5, a6, a7⟩ := h
  rw [flat_T] at a2
  rw [tmps_T] at a3
  have hl : (P ++ [(Y, e, X ++ T)]).length = (P ++ [(Y, e, X)]).length := by rw [List.length_append, List.length_append]; rfl
  rw [hl] at a5
  exact ⟨a1, a2, a3, RLo_fr a4, a5, a6, a7⟩
theorem RZ.toX {v0 v : Mem} {n z dp : Nat} {J : Jb} {P : List Fr} {Y X T : List TyR} {e : Nat} {ρ : Rho} (h : RZ v0 n z dp J (P ++ [(Y, e, X)]) T ρ v) : RX v0 n z dp 0 J (P ++ [(Y, e, X ++ T)]) ρ v := by
  obtain ⟨a1, a2, a3, a4, a5, a6, a7⟩ := h
  rw [← flat_T] at a2
  rw [← tmps_T] at a3
  have hl : (P ++ [(Y, e, X ++ T)]).length = (P ++ [(Y, e, X)]).length := by rw [List.length_append, List.length_append]; rfl
  rw [← hl] at a5
  exact ⟨a1, a2, a3, RLo_fr a4, a5, a6, a7⟩
theorem RX.toZ0 {v0 v : Mem} {n z dp : Nat} {J : Jb} {FS : List Fr} {ρ : Rho} (h : RX v0 n z dp 0 J FS ρ v) : RZ v0 n z dp J FS [] ρ v := by
  obtain ⟨a1, a2, a3, a4, a5, a6, a7⟩ := h
  refine ⟨a1, ?_, ?_, a4, a5, a6, a7⟩
  · rw [a2]; show _ = gc (flat FS ++ []) z0 (blk J); rw [List.append_nil]
  · rw [List.append_nil]; exact a3
/-- frames below stay -/
theorem RLo.low {v v' : Mem} {n : Nat} {J : Jb} {N : Nat} (h72 : ∀ f, f < N → v' 72 f = v 72 f) (hlow : ∀ c k, (c = 69 ∨ c = 70 ∨ c = 71 ∨ c = 80) → k < 30 * N → v' c k = v c k) : ∀ (R : List Fr) (f : Nat), f + R.length ≤ N → RLo v n J f R → RLo v' n J f R := by
  intro R
  induction R with
  | nil => intro f _ _; trivial
  | cons x R ih =>
    intro f hf hR
    have hf : f + (R.length + 1) ≤ N := hf
    have l30 := hR.1.2.1
    exact ⟨hR.1.same (h72 f (by omega)) (fun c k hc' k1 k2 => hlow c k hc' (by omega)), ih (f + 1) (by omega) hR.2⟩
/-- i of the rows handed over are locals of frame F -/
def PLc (v1 : Mem) (ci F N i : Nat) (w : Mem) : Prop := (∀ c, c ≠ 69 → c ≠ 70 → c ≠ 71 → c ≠ 80 → w c = v1 c) ∧ (∀ c k, k < 30 * F → w c k = v1 c k ∨ (c ≠ 69 ∧ c ≠ 70 ∧ c ≠ 71 ∧ c ≠ 80)) ∧ ∀ j, j < i → w 69 (30 * F + j) = v1 66 (N + j) ∧ w 70 (30 * F + j) = v1 67 (N + j) ∧ w 71 (30 * F + j) = v1 68 (N + j) ∧ w 80 (30 * F + j) = (if v1 48 (6 * ci + j) = 1 then 1 else 0)
theorem PLc.next {v1 w : Mem} {ci F N i : Nat} {a : Int} (h : PLc v1 ci F N i w) (ha : a = (if v1 48 (6 * ci + i) = 1 then 1 else 0)) : PLc v1 ci F N (i + 1) (up (up (up (up w 69 (30 * F + i) (w 66 (N + i))) 70 (30 * F + i) (w 67 (N + i))) 71 (30 * F + i) (w 68 (N + i))) 80 (30 * F + i) a) := by
  obtain ⟨h1, h2, h3⟩ := h
  refine ⟨fun c a1 a2 a3 a4 => ?_, fun c k hk => ?_, fun j hj => ?_⟩
  · rw [up_ne a4, up_ne a3, up_ne a2, up_ne a1]
    exact h1 c a1 a2 a3 a4
  · have e : ∀ (c' : Nat) (x : Int) (y : Mem), up y c' (30 * F + i) x c k = y c k := fun c' x y => by
      by_cases q : c = c'
      · subst q; exact up_nk (by omega)
      · rw [up_ne q]
    rw [e, e, e, e]
    exact h2 c k hk
  · by_cases q : j = i
    · subst q
      refine ⟨?_, ?_, ?_, ?_⟩
      · rw [up_ne (by decide), up_ne (by decide), up_ne (by decide), up_k, h1 66 (by decide) (by decide) (by decide) (by decide)]
      · rw [up_ne (by decide), up_ne (by decide), up_k, h1 67 (by decide) (by decide) (by decide) (by decide)]
      · rw [up_ne (by decide), up_k, h1 68 (by decide) (by decide) (by decide) (by decide)]
      · rw [up_k, ha]
    · have e : ∀ (c' c : Nat) (x : Int) (y : Mem), up y c' (30 * F + i) x c (30 * F + j) = y c (30 * F + j) := fun c' c x y => by
        by_cases q' : c = c'
        · subst q'; exact up_nk (by omega)
        · rw [up_ne q']
      rw [e, e, e, e, e, e, e, e, e, e, e, e, e, e, e, e]
      exact h3 j (by omega)
theorem par_lp {t : Int} {d : Nat} {v1 : Mem} {ci F N np : Nat} {Q : Int → Mem → Prop} (hci : ci < 20) (hF : F < 12) (hnp : np ≤ 6) (hN : N + np ≤ 1500) (e52 : v1 38 52 = ((N + np : Nat) : Int)) (hq : ∀ w, PLc v1 ci F N np w → LL t (d + 1) 251 37 [(2, 38), (0, (ci : Int)), (0, (np : Int)), (0, ((30 * F : Nat) : Int)), (0, (np : Int))] [] w Q) : ∀ (m i : Nat) (w : Mem), i + m = np → PLc v1 ci F N i w → LL t (d + 1) 251 37 [(2, 38), (0, (ci : Int)), (0, (np : Int)), (0, ((30 * F : Nat) : Int)), (0, (i : Int))] [] w Q := by
  intro m
  induction m with
  | zero =>
    intro i w hi h
    have hi : i = np := by omega
    subst hi
    exact hq w h
  | succ m ih =>
    intro i w hi h
    have e1 : w 38 52 = ((N + np : Nat) : Int) := by rw [h.1 38 (by decide) (by decide) (by decide) (by decide)]; exact e52
    have b1 : 0 ≤ ((N + i : Nat) : Int) ∧ ((N + i : Nat) : Int) < 1500 := ⟨by omega, by omega⟩
    have b2 : 0 ≤ ((30 * F + i : Nat) : Int) ∧ ((30 * F + i : Nat) : Int) < 360 := ⟨by omega, by omega⟩
    have b3 : 0 ≤ ((6 * ci + i : Nat) : Int) ∧ ((6 * ci + i : Nat) : Int) < 120 := ⟨by omega, by omega⟩
    have b4 : i + 1 + m = np := by omega
    refine w_251_37 ⟨fun _ => ?_, fun c => absurd (by omega) c⟩
    rw [e1, wNat (k := N) (a := ((N + np : Nat) : Int) - (np : Int)) (by omega) (by omega), wNat (k := N + i) (a := (N : Int) + (i : Int)) (by omega) (by omega), wNat (k := 30 * F + i) (a := ((30 * F : Nat) : Int) + (i : Int)) (by omega) (by omega), wNat (k := 6 * ci) (a := 6 * (ci : Int)) (by omega) (by omega), wNat (k := 6 * ci + i) (a := ((6 * ci : Nat) : Int) + (i : Int)) (by omega) (by omega), wNat (k := i + 1) (a := (i : Int) + 1) (by omega) (by omega)]
    rw [Int.toNat_natCast, Int.toNat_natCast, Int.toNat_natCast]
    have e48 : w 48 = v1 48 := h.1 48 (by decide) (by decide) (by decide) (by decide)
    rw [e48]
    exact ⟨b1, b2, b1, b2, b1, b2, b3, fun c => ⟨b2, Or.inr rfl, ih (i + 1) _ b4 (h.next (by rw [if_pos c]))⟩, fun c => ⟨b2, Or.inl rfl, ih (i + 1) _ b4 (h.next (by rw [if_neg c]))⟩⟩
/-- what a FUNCTION gives back is pushed -/
theorem bk_push {t : Int} {d : Nat} {v0 vb : Mem} {n z dp : Nat} {J : Jb} {FS : List Fr} {ρ : Rho} {r : Rw} {rt x y w : Int} {Q : Int → Mem → Prop} (b1 : RHb vb z J) (b2 : rH ρ = gc (flat FS ++ [r]) z0 (blk J)) (b3 : RSt vb n J (tmps FS)) (b4 : RLo vb n J 0 FS) (b5 : RNu vb 0 dp FS.length ρ) (b6 : RBy vb ρ) (b7 : RFx v0 vb) (hr : rrw J n r rt x y w) (hl : (tmps FS).length < 1500) (hq : ∀ v', RZ v0 n z dp J FS [(r, rt)] ρ v' → Q 1 v') : RR t d 234 [(2, 38), (0, x), (0, y), (0, w)] vb (fun _ v3 => (((1 : Int) = 0 ∨ (1 : Int) = 1) ∧ Q 1 v3)) := by
  have hb : 0 ≤ vb 38 52 ∧ vb 38 52 < 1500 := by rw [b3.1]; exact ⟨by omega, by omega⟩
  refine w_234 ⟨hb, hb, hb, Or.inr rfl, hq _ ?_⟩
  rw [b3.1, Int.toNat_natCast, wNat (k := (tmps FS).length + 1) (a := (((tmps FS).length : Nat) : Int) + 1) (by omega) (by omega)]
  refine ⟨b1.same (up_nk (by decide)) (up_nk (by decide)) (up_nk (by decide)) (fun c hc => ?_), b2, ⟨?_, ?_, fun i hi => ?_⟩, RLo.same (fun c hc => ?_) _ _ b4, b5.same (fun k hk => ?_) ?_, fun b hb j hj => ?_, b7.trans (fun c c1 c2 => ?_) (fun k hk => ?_)⟩
  · rw [up_ne (by omega), up_ne (by omega), up_ne (by omega), up_ne (by omega)]
  · rw [up_k, List.length_append]; rfl
  · rw [List.length_append]; show _ + 1 ≤ 1500; omega
  · rw [List.length_append] at hi
    have hi : i < (tmps FS).length + 1 := hi
    by_cases c : i = (tmps FS).length
    · subst c
      have e0 := gdA (l := tmps FS) (m := [(r, rt)]) (k := 0) (d := ((-1, 0, 0), 0))
      rw [Nat.add_zero] at e0
      rw [e0, up_ne (by decide), up_ne (by decide), up_ne (by decide), up_k, up_ne (by decide), up_ne (by decide), up_k, up_ne (by decide), up_k]
      exact hr
    · rw [gd_app1 (by omega), up_ne (by decide), up_ne (by decide), up_ne (by decide), up_nk c, up_ne (by decide), up_ne (by decide), up_nk c, up_ne (by decide), up_ne (by decide), up_nk c, up_ne (by decide), up_ne (by decide)]
      exact b3.2.2 i (by omega)
  · rw [up_ne (by omega), up_ne (by omega), up_ne (by omega), up_ne (by omega)]
  · rw [up_nk (by omega), up_ne (by decide), up_ne (by decide), up_ne (by decide)]
  · rw [up_ne (by decide), up_ne (by decide), up_ne (by decide), up_ne (by decide)]
  · rw [up_ne (by decide), up_ne (by decide), up_ne (by decide), up_ne (by decide)]
    exact b6 b hb j hj
  · rw [up_ne c2, up_ne (by omega), up_ne (by omega), up_ne (by omega)]
  · rw [up_nk (by omega), up_ne (by decide), up_ne (by decide), up_ne (by decide)]
/-- what is to follow behind a call over the frames FS -/
def KZ (v0 : Mem) (n z dp : Nat) (FS : List Fr) (ty : Int) (Q : Int → Mem → Prop) (r : XE) : Prop := match r with
  | .error er => ∀ v', RE v0 n z dp er v' → Q 0 v'
  | .ok q => ∀ r1 J' v', q.1 = [r1] → RZ v0 n z dp J' FS [(r1, ty)] q.2 v' → Q 1 v'
theorem KRe.kz {v0 : Mem} {n z dp : Nat} {P : List Fr} {Y X : List TyR} {e : Nat} {ty : Int} {Q : Int → Mem → Prop} {r : XE} (h : KRe v0 n z dp P Y e X ty Q r) : KZ v0 n z dp (P ++ [(Y, e, X)]) ty Q r := by
  match r, h with
  | .error er, h => exact h
  | .ok q, h => exact fun r1 J' v' e1 g => h r1 J' v' e1 g.toX
