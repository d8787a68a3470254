/-! take, opens, shuts of each sign. -/
theorem take_7 {t : Int} {d : Nat} {v : Mem} {Q : Int → Mem → Prop} {u : Nat → Int} {n i sg nb nd : Nat} (h : ES v u n i sg nb nd) (h1 : kd u n i = 40 → ∀ v', ES v' u n (i + 1) sg nb nd → S38 v v' → Q 1 v') (h2 : ¬ kd u n i = 40 → ∀ v', FT1 v' u n i → (∀ m, EFr m v v') → Q 0 v') : RR t (d + 9) 195 [(2, 38), (2, (-9))] v Q := by
  refine s_195_s7 (d := d + 8) (is_7 (d := d + 3) h.2.1 ?_)
  rw [h.ck]
  by_cases hk : kd u n i = 40
  · rw [decide_eq_true hk]
    exact ⟨fun c => absurd c (by decide), fun _ => nx_es h (by rw [hk]; decide) (h1 hk)⟩
  · rw [decide_eq_false hk, m194 h.2.2.2.2.2, h.at]
    exact ⟨fun _ => h2 hk _ ⟨rfl, rfl⟩ (fun m => (EFr.u38 (by omega)).trans (EFr.u38 (by omega)) (Nat.le_refl m)), fun c => absurd rfl c⟩
theorem take_8 {t : Int} {d : Nat} {v : Mem} {Q : Int → Mem → Prop} {u : Nat → Int} {n i sg nb nd : Nat} (h : ES v u n i sg nb nd) (h1 : kd u n i = 41 → ∀ v', ES v' u n (i + 1) sg nb nd → S38 v v' → Q 1 v') (h2 : ¬ kd u n i = 41 → ∀ v', FT1 v' u n i → (∀ m, EFr m v v') → Q 0 v') : RR t (d + 9) 195 [(2, 38), (2, (-10))] v Q := by
  refine s_195_s8 (d := d + 8) (is_8 (d := d + 3) h.2.1 ?_)
  rw [h.ck]
  by_cases hk : kd u n i = 41
  · rw [decide_eq_true hk]
    exact ⟨fun c => absurd c (by decide), fun _ => nx_es h (by rw [hk]; decide) (h1 hk)⟩
  · rw [decide_eq_false hk, m194 h.2.2.2.2.2, h.at]
    exact ⟨fun _ => h2 hk _ ⟨rfl, rfl⟩ (fun m => (EFr.u38 (by omega)).trans (EFr.u38 (by omega)) (Nat.le_refl m)), fun c => absurd rfl c⟩
theorem take_9 {t : Int} {d : Nat} {v : Mem} {Q : Int → Mem → Prop} {u : Nat → Int} {n i sg nb nd : Nat} (h : ES v u n i sg nb nd) (h1 : kd u n i = 58 → ∀ v', ES v' u n (i + 1) sg nb nd → S38 v v' → Q 1 v') (h2 : ¬ kd u n i = 58 → ∀ v', FT1 v' u n i → (∀ m, EFr m v v') → Q 0 v') : RR t (d + 9) 195 [(2, 38), (2, (-11))] v Q := by
  refine s_195_s9 (d := d + 8) (is_9 (d := d + 3) h.2.1 ?_)
  rw [h.ck]
  by_cases hk : kd u n i = 58
  · rw [decide_eq_true hk]
    exact ⟨fun c => absurd c (by decide), fun _ => nx_es h (by rw [hk]; decide) (h1 hk)⟩
  · rw [decide_eq_false hk, m194 h.2.2.2.2.2, h.at]
    exact ⟨fun _ => h2 hk _ ⟨rfl, rfl⟩ (fun m => (EFr.u38 (by omega)).trans (EFr.u38 (by omega)) (Nat.le_refl m)), fun c => absurd rfl c⟩
theorem take_42 {t : Int} {d : Nat} {v : Mem} {Q : Int → Mem → Prop} {u : Nat → Int} {n i sg nb nd : Nat} (h : ES v u n i sg nb nd) (h1 : kd u n i = 59 → ∀ v', ES v' u n (i + 1) sg nb nd → S38 v v' → Q 1 v') (h2 : ¬ kd u n i = 59 → ∀ v', FT1 v' u n i → (∀ m, EFr m v v') → Q 0 v') : RR t (d + 9) 195 [(2, 38), (2, (-44))] v Q := by
  refine s_195_s42 (d := d + 8) (is_42 (d := d + 3) h.2.1 ?_)
  rw [h.ck]
  by_cases hk : kd u n i = 59
  · rw [decide_eq_true hk]
    exact ⟨fun c => absurd c (by decide), fun _ => nx_es h (by rw [hk]; decide) (h1 hk)⟩
  · rw [decide_eq_false hk, m194 h.2.2.2.2.2, h.at]
    exact ⟨fun _ => h2 hk _ ⟨rfl, rfl⟩ (fun m => (EFr.u38 (by omega)).trans (EFr.u38 (by omega)) (Nat.le_refl m)), fun c => absurd rfl c⟩
theorem take_12 {t : Int} {d : Nat} {v : Mem} {Q : Int → Mem → Prop} {u : Nat → Int} {n i sg nb nd : Nat} (h : ES v u n i sg nb nd) (h1 : kd u n i = 44 → ∀ v', ES v' u n (i + 1) sg nb nd → S38 v v' → Q 1 v') (h2 : ¬ kd u n i = 44 → ∀ v', FT1 v' u n i → (∀ m, EFr m v v') → Q 0 v') : RR t (d + 9) 195 [(2, 38), (2, (-14))] v Q := by
  refine s_195_s12 (d := d + 8) (is_12 (d := d + 3) h.2.1 ?_)
  rw [h.ck]
  by_cases hk : kd u n i = 44
  · rw [decide_eq_true hk]
    exact ⟨fun c => absurd c (by decide), fun _ => nx_es h (by rw [hk]; decide) (h1 hk)⟩
  · rw [decide_eq_false hk, m194 h.2.2.2.2.2, h.at]
    exact ⟨fun _ => h2 hk _ ⟨rfl, rfl⟩ (fun m => (EFr.u38 (by omega)).trans (EFr.u38 (by omega)) (Nat.le_refl m)), fun c => absurd rfl c⟩
theorem take_13 {t : Int} {d : Nat} {v : Mem} {Q : Int → Mem → Prop} {u : Nat → Int} {n i sg nb nd : Nat} (h : ES v u n i sg nb nd) (h1 : kd u n i = 123 → ∀ v', ES v' u n (i + 1) sg nb nd → S38 v v' → Q 1 v') (h2 : ¬ kd u n i = 123 → ∀ v', FT1 v' u n i → (∀ m, EFr m v v') → Q 0 v') : RR t (d + 9) 195 [(2, 38), (2, (-15))] v Q := by
  refine s_195_s13 (d := d + 8) (is_13 (d := d + 3) h.2.1 ?_)
  rw [h.ck]
  by_cases hk : kd u n i = 123
  · rw [decide_eq_true hk]
    exact ⟨fun c => absurd c (by decide), fun _ => nx_es h (by rw [hk]; decide) (h1 hk)⟩
  · rw [decide_eq_false hk, m194 h.2.2.2.2.2, h.at]
    exact ⟨fun _ => h2 hk _ ⟨rfl, rfl⟩ (fun m => (EFr.u38 (by omega)).trans (EFr.u38 (by omega)) (Nat.le_refl m)), fun c => absurd rfl c⟩
theorem take_21 {t : Int} {d : Nat} {v : Mem} {Q : Int → Mem → Prop} {u : Nat → Int} {n i sg nb nd : Nat} (h : ES v u n i sg nb nd) (h1 : kd u n i = 61 → ∀ v', ES v' u n (i + 1) sg nb nd → S38 v v' → Q 1 v') (h2 : ¬ kd u n i = 61 → ∀ v', FT1 v' u n i → (∀ m, EFr m v v') → Q 0 v') : RR t (d + 9) 195 [(2, 38), (2, (-23))] v Q := by
  refine s_195_s21 (d := d + 8) (is_21 (d := d + 3) h.2.1 ?_)
  rw [h.ck]
  by_cases hk : kd u n i = 61
  · rw [decide_eq_true hk]
    exact ⟨fun c => absurd c (by decide), fun _ => nx_es h (by rw [hk]; decide) (h1 hk)⟩
  · rw [decide_eq_false hk, m194 h.2.2.2.2.2, h.at]
    exact ⟨fun _ => h2 hk _ ⟨rfl, rfl⟩ (fun m => (EFr.u38 (by omega)).trans (EFr.u38 (by omega)) (Nat.le_refl m)), fun c => absurd rfl c⟩
theorem take_28 {t : Int} {d : Nat} {v : Mem} {Q : Int → Mem → Prop} {u : Nat → Int} {n i sg nb nd : Nat} (h : ES v u n i sg nb nd) (h1 : kd u n i = 91 → ∀ v', ES v' u n (i + 1) sg nb nd → S38 v v' → Q 1 v') (h2 : ¬ kd u n i = 91 → ∀ v', FT1 v' u n i → (∀ m, EFr m v v') → Q 0 v') : RR t (d + 9) 195 [(2, 38), (2, (-30))] v Q := by
  refine s_195_s28 (d := d + 8) (is_28 (d := d + 3) h.2.1 ?_)
  rw [h.ck]
  by_cases hk : kd u n i = 91
  · rw [decide_eq_true hk]
    exact ⟨fun c => absurd c (by decide), fun _ => nx_es h (by rw [hk]; decide) (h1 hk)⟩
  · rw [decide_eq_false hk, m194 h.2.2.2.2.2, h.at]
    exact ⟨fun _ => h2 hk _ ⟨rfl, rfl⟩ (fun m => (EFr.u38 (by omega)).trans (EFr.u38 (by omega)) (Nat.le_refl m)), fun c => absurd rfl c⟩
theorem take_29 {t : Int} {d : Nat} {v : Mem} {Q : Int → Mem → Prop} {u : Nat → Int} {n i sg nb nd : Nat} (h : ES v u n i sg nb nd) (h1 : kd u n i = 93 → ∀ v', ES v' u n (i + 1) sg nb nd → S38 v v' → Q 1 v') (h2 : ¬ kd u n i = 93 → ∀ v', FT1 v' u n i → (∀ m, EFr m v v') → Q 0 v') : RR t (d + 9) 195 [(2, 38), (2, (-31))] v Q := by
  refine s_195_s29 (d := d + 8) (is_29 (d := d + 3) h.2.1 ?_)
  rw [h.ck]
  by_cases hk : kd u n i = 93
  · rw [decide_eq_true hk]
    exact ⟨fun c => absurd c (by decide), fun _ => nx_es h (by rw [hk]; decide) (h1 hk)⟩
  · rw [decide_eq_false hk, m194 h.2.2.2.2.2, h.at]
    exact ⟨fun _ => h2 hk _ ⟨rfl, rfl⟩ (fun m => (EFr.u38 (by omega)).trans (EFr.u38 (by omega)) (Nat.le_refl m)), fun c => absurd rfl c⟩
theorem opens_7 {t : Int} {d : Nat} {v : Mem} {Q : Int → Mem → Prop} {u : Nat → Int} {n i sg nb nd : Nat} (h : ES v u n i sg nb nd) (hnb : nb ≤ 8) (h1 : kd u n i = 40 → nb < 8 → ∀ v', ES v' u n (i + 1) sg (nb + 1) nd → (∀ m, EFr m v v') → Q 1 v') (h2 : ¬ (kd u n i = 40 ∧ nb < 8) → ∀ v', FT1 v' u n i → (∀ m, EFr m v v') → Q 0 v') : RR t (d + 10) 198 [(2, 38), (2, (-9))] v Q := by
  have e : w32 (v 38 38 + 1) = ((nb + 1 : Nat) : Int) := by rw [h.2.2.2.1]; exact wNat (by omega) (by omega)
  have go : nb < 8 ∨ ¬ kd u n i = 40 → RR t (d + 9) 195 [(2, 38), (2, (-9))] (up v 38 38 (w32 (v 38 38 + 1))) (fun x v' => (x = 0 ∨ x = 1) ∧ Q x v') := by
    intro hb
    rw [e]
    have h' : ES (up v 38 38 ((nb + 1 : Nat) : Int)) u n i sg (nb + 1) nd := h.same rfl (fun k hk => by rw [up_nk (by omega)]) h.2.2.1 rfl h.2.2.2.2.1 h.2.2.2.2.2
    refine take_7 h' (fun hk v' a1 a2 => ⟨Or.inr rfl, h1 hk (by rcases hb with hb | hb; exact hb; exact absurd hk hb) v' a1 (fun m => (EFr.u38 (by omega)).trans (EFr.s38 a2) (Nat.le_refl m))⟩) (fun hk v' a1 a2 => ⟨Or.inl rfl, h2 (fun q => hk q.1) v' a1 (fun m => (EFr.u38 (by omega)).trans (a2 m) (Nat.le_refl m))⟩)
  refine s_198_s7 (d := d + 9) (is_7 (d := d + 4) h.2.1 ?_)
  rw [h.ck]
  by_cases hk : kd u n i = 40
  · rw [decide_eq_true hk]
    refine ⟨fun c => absurd c (by decide), fun _ => ⟨fun c => ?_, fun c => go (Or.inl ?_)⟩⟩
    · rw [h.2.2.2.1] at c
      rw [m194 h.2.2.2.2.2, h.at]
      exact h2 (fun q => by have := q.2; omega) _ ⟨rfl, rfl⟩ (fun m => (EFr.u38 (by omega)).trans (EFr.u38 (by omega)) (Nat.le_refl m))
    · rw [h.2.2.2.1] at c
      omega
  · rw [decide_eq_false hk]
    exact ⟨fun _ => go (Or.inr hk), fun c => absurd rfl c⟩
theorem opens_28 {t : Int} {d : Nat} {v : Mem} {Q : Int → Mem → Prop} {u : Nat → Int} {n i sg nb nd : Nat} (h : ES v u n i sg nb nd) (hnb : nb ≤ 8) (h1 : kd u n i = 91 → nb < 8 → ∀ v', ES v' u n (i + 1) sg (nb + 1) nd → (∀ m, EFr m v v') → Q 1 v') (h2 : ¬ (kd u n i = 91 ∧ nb < 8) → ∀ v', FT1 v' u n i → (∀ m, EFr m v v') → Q 0 v') : RR t (d + 10) 198 [(2, 38), (2, (-30))] v Q := by
  have e : w32 (v 38 38 + 1) = ((nb + 1 : Nat) : Int) := by rw [h.2.2.2.1]; exact wNat (by omega) (by omega)
  have go : nb < 8 ∨ ¬ kd u n i = 91 → RR t (d + 9) 195 [(2, 38), (2, (-30))] (up v 38 38 (w32 (v 38 38 + 1))) (fun x v' => (x = 0 ∨ x = 1) ∧ Q x v') := by
    intro hb
    rw [e]
    have h' : ES (up v 38 38 ((nb + 1 : Nat) : Int)) u n i sg (nb + 1) nd := h.same rfl (fun k hk => by rw [up_nk (by omega)]) h.2.2.1 rfl h.2.2.2.2.1 h.2.2.2.2.2
    refine take_28 h' (fun hk v' a1 a2 => ⟨Or.inr rfl, h1 hk (by rcases hb with hb | hb; exact hb; exact absurd hk hb) v' a1 (fun m => (EFr.u38 (by omega)).trans (EFr.s38 a2) (Nat.le_refl m))⟩) (fun hk v' a1 a2 => ⟨Or.inl rfl, h2 (fun q => hk q.1) v' a1 (fun m => (EFr.u38 (by omega)).trans (a2 m) (Nat.le_refl m))⟩)
  refine s_198_s28 (d := d + 9) (is_28 (d := d + 4) h.2.1 ?_)
  rw [h.ck]
  by_cases hk : kd u n i = 91
  · rw [decide_eq_true hk]
    refine ⟨fun c => absurd c (by decide), fun _ => ⟨fun c => ?_, fun c => go (Or.inl ?_)⟩⟩
    · rw [h.2.2.2.1] at c
      rw [m194 h.2.2.2.2.2, h.at]
      exact h2 (fun q => by have := q.2; omega) _ ⟨rfl, rfl⟩ (fun m => (EFr.u38 (by omega)).trans (EFr.u38 (by omega)) (Nat.le_refl m))
    · rw [h.2.2.2.1] at c
      omega
  · rw [decide_eq_false hk]
    exact ⟨fun _ => go (Or.inr hk), fun c => absurd rfl c⟩
theorem shuts_8 {t : Int} {d : Nat} {v : Mem} {Q : Int → Mem → Prop} {u : Nat → Int} {n i sg nb nd : Nat} (h : ES v u n i sg (nb + 1) nd) (hnb : nb ≤ 8) (h1 : kd u n i = 41 → ∀ v', ES v' u n (i + 1) sg nb nd → (∀ m, EFr m v v') → Q 1 v') (h2 : ¬ kd u n i = 41 → ∀ v', FT1 v' u n i → (∀ m, EFr m v v') → Q 0 v') : RR t (d + 10) 199 [(2, 38), (2, (-10))] v Q := by
  refine w_199_s8 (d := d + 9) ?_
  rw [show w32 (v 38 38 - 1) = (nb : Int) by rw [h.2.2.2.1]; exact wNat (by omega) (by omega)]
  have h' : ES (up v 38 38 (nb : Int)) u n i sg nb nd := h.same rfl (fun k hk => by rw [up_nk (by omega)]) h.2.2.1 rfl h.2.2.2.2.1 h.2.2.2.2.2
  exact take_8 h' (fun hk v' a1 a2 => ⟨Or.inr rfl, h1 hk v' a1 (fun m => (EFr.u38 (by omega)).trans (EFr.s38 a2) (Nat.le_refl m))⟩) (fun hk v' a1 a2 => ⟨Or.inl rfl, h2 hk v' a1 (fun m => (EFr.u38 (by omega)).trans (a2 m) (Nat.le_refl m))⟩)
theorem shuts_29 {t : Int} {d : Nat} {v : Mem} {Q : Int → Mem → Prop} {u : Nat → Int} {n i sg nb nd : Nat} (h : ES v u n i sg (nb + 1) nd) (hnb : nb ≤ 8) (h1 : kd u n i = 93 → ∀ v', ES v' u n (i + 1) sg nb nd → (∀ m, EFr m v v') → Q 1 v') (h2 : ¬ kd u n i = 93 → ∀ v', FT1 v' u n i → (∀ m, EFr m v v') → Q 0 v') : RR t (d + 10) 199 [(2, 38), (2, (-31))] v Q := by
  refine w_199_s29 (d := d + 9) ?_
  rw [show w32 (v 38 38 - 1) = (nb : Int) by rw [h.2.2.2.1]; exact wNat (by omega) (by omega)]
  have h' : ES (up v 38 38 (nb : Int)) u n i sg nb nd := h.same rfl (fun k hk => by rw [up_nk (by omega)]) h.2.2.1 rfl h.2.2.2.2.1 h.2.2.2.2.2
  exact take_29 h' (fun hk v' a1 a2 => ⟨Or.inr rfl, h1 hk v' a1 (fun m => (EFr.u38 (by omega)).trans (EFr.s38 a2) (Nat.le_refl m))⟩) (fun hk v' a1 a2 => ⟨Or.inl rfl, h2 hk v' a1 (fun m => (EFr.u38 (by omega)).trans (a2 m) (Nat.le_refl m))⟩)
/-- the reference's number of a sign between two -/
def opc (k : Int) : Int := if k = 20 then 7 else if k = 10 then 8 else if k = 189 then 9 else if k = 161 then 10 else if k = 60 then 11 else if k = 188 then 12 else if k = 43 then 13 else if k = 45 then 14 else if k = 38 then 15 else if k = 42 then 16 else if k = 47 then 17 else if k = 37 then 18 else 0
theorem lvl_0 {k : Int} : lvl k = 0 ↔ k = 20 := by unfold lvl; split <;> (try split) <;> (try split) <;> (try split) <;> (try split) <;> (first | omega | (constructor <;> omega))
theorem lvl_1 {k : Int} : lvl k = 1 ↔ k = 10 := by unfold lvl; split <;> (try split) <;> (try split) <;> (try split) <;> (try split) <;> (first | omega | (constructor <;> omega))
theorem lvl_2 {k : Int} : lvl k = 2 ↔ (k = 189 ∨ k = 161 ∨ k = 60 ∨ k = 188) := by unfold lvl; split <;> (try split) <;> (try split) <;> (try split) <;> (try split) <;> (first | omega | (constructor <;> omega))
theorem lvl_3 {k : Int} : lvl k = 3 ↔ (k = 43 ∨ k = 45 ∨ k = 38) := by unfold lvl; split <;> (try split) <;> (try split) <;> (try split) <;> (try split) <;> (first | omega | (constructor <;> omega))
theorem lvl_4 {k : Int} : lvl k = 4 ↔ (k = 42 ∨ k = 47 ∨ k = 37) := by unfold lvl; split <;> (try split) <;> (try split) <;> (try split) <;> (try split) <;> (first | omega | (constructor <;> omega))
theorem betw_0 {t : Int} {d : Nat} {v : Mem} {Q : Int → Mem → Prop} {u : Nat → Int} {n i sg nb nd : Nat} (h : ES v u n i sg nb nd) (hq : Q (if lvl (kd u n i) = 0 then opc (kd u n i) else 0) v) : RR t (d + 6) 200 [(2, 38), (0, 0)] v Q := by
  refine s_200 (d := d + 5) ⟨fun _ => ?_, fun c => absurd rfl c⟩
  refine is_30 (d := d) h.2.1 ?_
  rw [h.ck]
  by_cases k30 : kd u n i = 20
  · rw [decide_eq_true k30]
    refine ⟨fun c => absurd c (by decide), fun _ => ?_⟩
    rw [k30] at hq
    exact hq
  · rw [decide_eq_false k30]
    refine ⟨fun _ => ?_, fun c => absurd rfl c⟩
    rw [if_neg (by intro e; exact absurd (lvl_0.mp e) k30)] at hq
    exact hq
theorem betw_1 {t : Int} {d : Nat} {v : Mem} {Q : Int → Mem → Prop} {u : Nat → Int} {n i sg nb nd : Nat} (h : ES v u n i sg nb nd) (hq : Q (if lvl (kd u n i) = 1 then opc (kd u n i) else 0) v) : RR t (d + 6) 200 [(2, 38), (0, 1)] v Q := by
  refine s_200 (d := d + 5) ⟨fun c => absurd c (by decide), fun _ => ⟨fun _ => ?_, fun c => absurd rfl c⟩⟩
  refine is_31 (d := d) h.2.1 ?_
  rw [h.ck]
  by_cases k31 : kd u n i = 10
  · rw [decide_eq_true k31]
    refine ⟨fun c => absurd c (by decide), fun _ => ?_⟩
    rw [k31] at hq
    exact hq
  · rw [decide_eq_false k31]
    refine ⟨fun _ => ?_, fun c => absurd rfl c⟩
    rw [if_neg (by intro e; exact absurd (lvl_1.mp e) k31)] at hq
    exact hq
theorem betw_2 {t : Int} {d : Nat} {v : Mem} {Q : Int → Mem → Prop} {u : Nat → Int} {n i sg nb nd : Nat} (h : ES v u n i sg nb nd) (hq : Q (if lvl (kd u n i) = 2 then opc (kd u n i) else 0) v) : RR t (d + 6) 200 [(2, 38), (0, 2)] v Q := by
  refine s_200 (d := d + 5) ⟨fun c => absurd c (by decide), fun _ => ⟨fun c => absurd c (by decide), fun _ => ⟨fun _ => ?_, fun c => absurd rfl c⟩⟩⟩
  refine is_32 (d := d) h.2.1 ?_
  rw [h.ck]
  by_cases k32 : kd u n i = 189
  · rw [decide_eq_true k32]
    refine ⟨fun c => absurd c (by decide), fun _ => ?_⟩
    rw [k32] at hq
    exact hq
  · rw [decide_eq_false k32]
    refine ⟨fun _ => ?_, fun c => absurd rfl c⟩
    refine is_33 (d := d) h.2.1 ?_
    rw [h.ck]
    by_cases k33 : kd u n i = 161
    · rw [decide_eq_true k33]
      refine ⟨fun c => absurd c (by decide), fun _ => ?_⟩
      rw [k33] at hq
      exact hq
    · rw [decide_eq_false k33]
      refine ⟨fun _ => ?_, fun c => absurd rfl c⟩
      refine is_34 (d := d) h.2.1 ?_
      rw [h.ck]
      by_cases k34 : kd u n i = 60
      · rw [decide_eq_true k34]
        refine ⟨fun c => absurd c (by decide), fun _ => ?_⟩
        rw [k34] at hq
        exact hq
      · rw [decide_eq_false k34]
        refine ⟨fun _ => ?_, fun c => absurd rfl c⟩
        refine is_35 (d := d) h.2.1 ?_
        rw [h.ck]
        by_cases k35 : kd u n i = 188
        · rw [decide_eq_true k35]
          refine ⟨fun c => absurd c (by decide), fun _ => ?_⟩
          rw [k35] at hq
          exact hq
        · rw [decide_eq_false k35]
          refine ⟨fun _ => ?_, fun c => absurd rfl c⟩
          rw [if_neg (by intro e; rcases lvl_2.mp e with e | e | e | e <;> contradiction)] at hq
          exact hq
theorem betw_3 {t : Int} {d : Nat} {v : Mem} {Q : Int → Mem → Prop} {u : Nat → Int} {n i sg nb nd : Nat} (h : ES v u n i sg nb nd) (hq : Q (if lvl (kd u n i) = 3 then opc (kd u n i) else 0) v) : RR t (d + 6) 200 [(2, 38), (0, 3)] v Q := by
  refine s_200 (d := d + 5) ⟨fun c => absurd c (by decide), fun _ => ⟨fun c => absurd c (by decide), fun _ => ⟨fun c => absurd c (by decide), fun _ => ⟨fun _ => ?_, fun c => absurd rfl c⟩⟩⟩⟩
  refine is_36 (d := d) h.2.1 ?_
  rw [h.ck]
  by_cases k36 : kd u n i = 43
  · rw [decide_eq_true k36]
    refine ⟨fun c => absurd c (by decide), fun _ => ?_⟩
    rw [k36] at hq
    exact hq
  · rw [decide_eq_false k36]
    refine ⟨fun _ => ?_, fun c => absurd rfl c⟩
    refine is_22 (d := d) h.2.1 ?_
    rw [h.ck]
    by_cases k22 : kd u n i = 45
    · rw [decide_eq_true k22]
      refine ⟨fun c => absurd c (by decide), fun _ => ?_⟩
      rw [k22] at hq
      exact hq
    · rw [decide_eq_false k22]
      refine ⟨fun _ => ?_, fun c => absurd rfl c⟩
      refine is_37 (d := d) h.2.1 ?_
      rw [h.ck]
      by_cases k37 : kd u n i = 38
      · rw [decide_eq_true k37]
        refine ⟨fun c => absurd c (by decide), fun _ => ?_⟩
        rw [k37] at hq
        exact hq
      · rw [decide_eq_false k37]
        refine ⟨fun _ => ?_, fun c => absurd rfl c⟩
        rw [if_neg (by intro e; rcases lvl_3.mp e with e | e | e <;> contradiction)] at hq
        exact hq
theorem betw_4 {t : Int} {d : Nat} {v : Mem} {Q : Int → Mem → Prop} {u : Nat → Int} {n i sg nb nd : Nat} (h : ES v u n i sg nb nd) (hq : Q (if lvl (kd u n i) = 4 then opc (kd u n i) else 0) v) : RR t (d + 6) 200 [(2, 38), (0, 4)] v Q := by
  refine s_200 (d := d + 5) ⟨fun c => absurd c (by decide), fun _ => ⟨fun c => absurd c (by decide), fun _ => ⟨fun c => absurd c (by decide), fun _ => ⟨fun c => absurd c (by decide), fun _ => ?_⟩⟩⟩⟩
  refine is_38 (d := d) h.2.1 ?_
  rw [h.ck]
  by_cases k38 : kd u n i = 42
  · rw [decide_eq_true k38]
    refine ⟨fun c => absurd c (by decide), fun _ => ?_⟩
    rw [k38] at hq
    exact hq
  · rw [decide_eq_false k38]
    refine ⟨fun _ => ?_, fun c => absurd rfl c⟩
    refine is_39 (d := d) h.2.1 ?_
    rw [h.ck]
    by_cases k39 : kd u n i = 47
    · rw [decide_eq_true k39]
      refine ⟨fun c => absurd c (by decide), fun _ => ?_⟩
      rw [k39] at hq
      exact hq
    · rw [decide_eq_false k39]
      refine ⟨fun _ => ?_, fun c => absurd rfl c⟩
      refine is_40 (d := d) h.2.1 ?_
      rw [h.ck]
      by_cases k40 : kd u n i = 37
      · rw [decide_eq_true k40]
        refine ⟨fun c => absurd c (by decide), fun _ => ?_⟩
        rw [k40] at hq
        exact hq
      · rw [decide_eq_false k40]
        refine ⟨fun _ => ?_, fun c => absurd rfl c⟩
        rw [if_neg (by intro e; rcases lvl_4.mp e with e | e | e <;> contradiction)] at hq
        exact hq
