/-! The class: read. -/
theorem RD_r {u : Nat → Int} {n : Nat} {x p : Int} (h : RD u n x p) : 0 ≤ x ∧ x ≤ 3 := by
  rcases h with ⟨a1, a2, a3⟩ | ⟨a1, j, a2, a3, a4⟩ | ⟨a1, l, a2, a3⟩ | ⟨l, g, a3, a4⟩
  · omega
  · omega
  · rcases a3 with ⟨q, r, c1, c2, c3⟩ | ⟨c1, c2, c3, c4⟩ | ⟨c1, c2, q, r, c3, c4, c5⟩ <;> omega
  · omega
/-- a PROGRAM is there, as the class holds it -/
def CLD (v : Mem) (u : Nat → Int) (n : Nat) (l : List FnT) : Prop := FNS v (l.map (fnOf u n)) ∧ v 8 3 = ((coG u n (l.map (fnOf u n)) l 0).length : Nat) ∧ (coG u n (l.map (fnOf u n)) l 0).length ≤ 3100 ∧ AtC v 0 (coG u n (l.map (fnOf u n)) l 0) ∧ ENT v u n (l.map (fnOf u n)) 0 0 l ∧ uB (v 14) n = u
/-- what read leaves alone -/
def CRd (n : Nat) (v v' : Mem) : Prop := (v' 0 5 = 0 ∧ v' 0 7 = 0 ∧ ∀ k, k < 5 → v' 0 k = v 0 k) ∧ (∀ c, c ≠ 0 → (c < 1 ∨ 11 < c) → c ≠ 14 → (c < 22 ∨ 30 < c ∨ c = 27) → v' c = v c) ∧ (∃ c : Nat, v' 28 2 = c ∧ c ≤ 30) ∧ (∀ k, k < 4 → v' 22 k = v 22 k) ∧ (∀ k, 3000 ≤ k → v' 14 k = v 14 k) ∧ ∀ k, k < 3000 → v' 14 k = v 14 k ∨ v' 14 k = v 12 k
theorem pre_173 {t t' : Int} {d : Nat} {v : Mem} {Q : Int → Mem → Prop} {a : Int} (ha : f_276 (v 0 5) 3000 v = a) (h0 : 0 ≤ a ∧ a ≤ 3000) (h : XT t t' (d + 1) 173 34 [(2, 0)] [(0, v 0 5), (2, 12), (2, 22), (2, 0)] (cpV v 12 0 14 0 (Int.toNat a)) Q) : XT t t' (d + 1) 173 0 [(2, 0)] [] v Q := by
  refine xt_stp (x_stp (i := .aload_n 0) (r := []) rfl rfl rfl : xr (d + 1) 173 0 [(2, 0)] [] (sg t v) = xr (d + 1) 173 1 [(2, 0)] [(2, 0)] (sg t v)) ?_
  refine xt_stp (x_stp (i := .getfield 22) (r := [2, 9, 1]) rfl rfl rfl : xr (d + 1) 173 1 [(2, 0)] [(2, 0)] (sg t v) = xr (d + 1) 173 4 [(2, 0)] [(2, 13)] (sg t v)) ?_
  refine xt_stp (x_stp (i := .aload_n 0) (r := []) rfl rfl rfl : xr (d + 1) 173 4 [(2, 0)] [(2, 13)] (sg t v) = xr (d + 1) 173 5 [(2, 0)] [(2, 0), (2, 13)] (sg t v)) ?_
  refine xt_stp (x_stp (i := .getfield 15) (r := [2, 9, 0]) rfl rfl rfl : xr (d + 1) 173 5 [(2, 0)] [(2, 0), (2, 13)] (sg t v) = xr (d + 1) 173 8 [(2, 0)] [(2, 12), (2, 13)] (sg t v)) ?_
  refine xt_stp (x_stp (i := .aload_n 0) (r := []) rfl rfl rfl : xr (d + 1) 173 8 [(2, 0)] [(2, 12), (2, 13)] (sg t v) = xr (d + 1) 173 9 [(2, 0)] [(2, 0), (2, 12), (2, 13)] (sg t v)) ?_
  refine xt_stp (x_stp (i := .getfield 54) (r := [0, 9, 5]) rfl rfl rfl : xr (d + 1) 173 9 [(2, 0)] [(2, 0), (2, 12), (2, 13)] (sg t v) = xr (d + 1) 173 12 [(2, 0)] [(0, v 0 5), (2, 12), (2, 13)] (sg t v)) ?_
  refine xt_stp (x_stp (i := .sipush 3000) (r := []) rfl rfl rfl : xr (d + 1) 173 12 [(2, 0)] [(0, v 0 5), (2, 12), (2, 13)] (sg t v) = xr (d + 1) 173 15 [(2, 0)] [(0, 3000), (0, v 0 5), (2, 12), (2, 13)] (sg t v)) ?_
  refine xt_call (t1 := t) (y' := 276) (as := [(0, v 0 5), (0, 3000)]) (S' := [(2, 12), (2, 13)]) (i := .invokestatic 74) (r := [276]) rfl rfl rfl rfl rfl (p_276 ?_)
  rw [ha]
  refine xt_call (t1 := t) (pc := 18) (y' := 1) (as := [(2, 13), (2, 12), (0, a)]) (S' := []) (i := .invokevirtual 80) (r := [1]) rfl rfl rfl rfl rfl (w_1 ⟨fun c => absurd c (by omega), fun _ => ⟨fun c => absurd c (by omega), fun _ => ⟨fun c => absurd c (by omega), fun _ => ⟨⟨by omega, by omega, by omega, by omega, by omega⟩, ?_⟩⟩⟩⟩)
  obtain ⟨w, hw⟩ : ∃ w, cpV v 12 0 14 0 (Int.toNat a) = w := ⟨_, rfl⟩
  have e5 : w 0 5 = v 0 5 := by rw [← hw]; rfl
  rw [hw] at h ⊢
  rw [← e5] at h
  refine xt_stp (x_stp (i := .aload_n 0) (r := []) rfl rfl rfl : xr (d + 1) 173 21 [(2, 0)] [] (sg t w) = xr (d + 1) 173 22 [(2, 0)] [(2, 0)] (sg t w)) ?_
  refine xt_stp (x_stp (i := .aload_n 0) (r := []) rfl rfl rfl : xr (d + 1) 173 22 [(2, 0)] [(2, 0)] (sg t w) = xr (d + 1) 173 23 [(2, 0)] [(2, 0), (2, 0)] (sg t w)) ?_
  refine xt_stp (x_stp (i := .getfield 41) (r := [2, 9, 3]) rfl rfl rfl : xr (d + 1) 173 23 [(2, 0)] [(2, 0), (2, 0)] (sg t w) = xr (d + 1) 173 26 [(2, 0)] [(2, 22), (2, 0)] (sg t w)) ?_
  refine xt_stp (x_stp (i := .aload_n 0) (r := []) rfl rfl rfl : xr (d + 1) 173 26 [(2, 0)] [(2, 22), (2, 0)] (sg t w) = xr (d + 1) 173 27 [(2, 0)] [(2, 0), (2, 22), (2, 0)] (sg t w)) ?_
  refine xt_stp (x_stp (i := .getfield 15) (r := [2, 9, 0]) rfl rfl rfl : xr (d + 1) 173 27 [(2, 0)] [(2, 0), (2, 22), (2, 0)] (sg t w) = xr (d + 1) 173 30 [(2, 0)] [(2, 12), (2, 22), (2, 0)] (sg t w)) ?_
  refine xt_stp (x_stp (i := .aload_n 0) (r := []) rfl rfl rfl : xr (d + 1) 173 30 [(2, 0)] [(2, 12), (2, 22), (2, 0)] (sg t w) = xr (d + 1) 173 31 [(2, 0)] [(2, 0), (2, 12), (2, 22), (2, 0)] (sg t w)) ?_
  exact xt_stp (x_stp (i := .getfield 54) (r := [0, 9, 5]) rfl rfl rfl : xr (d + 1) 173 31 [(2, 0)] [(2, 0), (2, 12), (2, 22), (2, 0)] (sg t w) = xr (d + 1) 173 34 [(2, 0)] [(0, w 0 5), (2, 12), (2, 22), (2, 0)] (sg t w)) h
theorem read_xt {t : Int} {u : Nat → Int} {n d : Nat} {v : Mem} {Q : Int → Mem → Prop} (hd : dB 0 + 10 ≤ d) (h5 : v 0 5 = (n : Nat)) (hn : n ≤ 3200) (ht : TXT 12 v n) (hk : KWI v) (hu : uB (v 12) n = u) (h28 : ∃ c : Nat, v 28 2 = c ∧ c ≤ 30) (hq : ∀ x v', RD u n x (f_174 v') → v' 0 6 = x → CRd n v v' → (x = 0 → ∃ l, GOOD u n l ∧ CLD v' u n l) → Q x v') : ∃ t', (t' = t ∨ t' = 12) ∧ XT t t' (d + 3) 173 0 [(2, 0)] [] v Q := by
  -- from check's answer on
  have fin : ∀ (t1 x : Int) (w v3 : Mem), (∀ c, c ≠ 14 → w c = v c) → (∀ k, 3000 ≤ k → w 14 k = v 14 k) → (∀ k, k < 3000 → w 14 k = v 14 k ∨ w 14 k = v 12 k) → FrK w v3 → RD u n x (if x = 0 then -1 else f_81 v3) → (x = 0 → ∃ l, GOOD u n l ∧ CLD v3 u n l) → XT t1 t1 (d + 3) 173 37 [(2, 0)] [(0, x), (2, 0)] v3 Q := by
    intro t1 x w v3 w1 w2 w3 f hr hg
    have hx := RD_r hr
    refine s_173_37 (hq x _ ?_ ?_ ?_ ?_)
    · have e1 : f_81 (up (up (up v3 0 6 x) 0 5 0) 0 7 0) = f_81 v3 := rfl
      have e2 : f_174 (up (up (up v3 0 6 x) 0 5 0) 0 7 0) = (if x = 0 then -1 else f_81 v3) := by
        unfold f_174
        rw [e1]
        show (if x = -1 then (-1 : Int) else if x = 0 then -1 else f_81 v3) = _
        rw [if_neg (by omega)]
      rw [e2]
      exact hr
    · rfl
    · have f0 := f.1 0 (by omega) (by omega)
      refine ⟨⟨rfl, rfl, fun k hk => ?_⟩, fun c a1 a2 a3 a4 => ?_, f.2.1, fun k hk => ?_, fun k hk => ?_, fun k hk => ?_⟩
      · rw [up_nk (by omega), up_nk (by omega), up_nk (by omega), f0, w1 0 (by decide)]
      · rw [up_ne a1, up_ne a1, up_ne a1, f.1 c a2 a4, w1 c a3]
      · rw [up_ne (by decide), up_ne (by decide), up_ne (by decide), f.2.2 k hk, w1 22 (by decide)]
      · rw [up_ne (by decide), up_ne (by decide), up_ne (by decide), f.1 14 (by omega) (by omega)]; exact w2 k hk
      · rw [up_ne (by decide), up_ne (by decide), up_ne (by decide), f.1 14 (by omega) (by omega)]; exact w3 k hk
    · intro e
      obtain ⟨l, g1, g2⟩ := hg e
      obtain ⟨b1, b2, b3, b4, b5, b6⟩ := g2
      exact ⟨l, g1, b1.tab5 (fun c c1 c2 => by rw [up_ne (by omega), up_ne (by omega), up_ne (by omega)]), b2, b3, AtC_same _ _ (fun c k c1 c2 _ _ => by rw [up_ne (by omega), up_ne (by omega), up_ne (by omega)]) b4, ENT.same _ _ _ (fun c k hc _ _ => by rw [up_ne (by omega), up_ne (by omega), up_ne (by omega)]) b5, b6⟩
  -- what load leaves
  have ld : ∀ m : Nat, m ≤ 3000 → (∀ c, c ≠ 14 → cpV v 12 0 14 0 m c = v c) ∧ (∀ k, 3000 ≤ k → cpV v 12 0 14 0 m 14 k = v 14 k) ∧ (∀ k, k < 3000 → cpV v 12 0 14 0 m 14 k = v 14 k ∨ cpV v 12 0 14 0 m 14 k = v 12 k) ∧ ∀ k, k < m → cpV v 12 0 14 0 m 14 k = v 12 k := by
    intro m hm
    refine ⟨fun c hc => ?_, fun k hk => ?_, fun k hk => ?_, fun k hk => ?_⟩
    · funext k
      show (if c = 14 then _ else v c k) = v c k
      rw [if_neg hc]
    · show (if (14 : Nat) = 14 then (if 0 ≤ k ∧ k < 0 + m then v 12 (0 + (k - 0)) else v 14 k) else v 14 k) = v 14 k
      rw [if_pos rfl, if_neg (by omega)]
    · show (if (14 : Nat) = 14 then (if 0 ≤ k ∧ k < 0 + m then v 12 (0 + (k - 0)) else v 14 k) else v 14 k) = v 14 k ∨ (if (14 : Nat) = 14 then (if 0 ≤ k ∧ k < 0 + m then v 12 (0 + (k - 0)) else v 14 k) else v 14 k) = v 12 k
      rw [if_pos rfl]
      by_cases h : 0 ≤ k ∧ k < 0 + m
      · rw [if_pos h, Nat.zero_add, Nat.sub_zero]; exact Or.inr rfl
      · rw [if_neg h]; exact Or.inl rfl
    · show (if (14 : Nat) = 14 then (if 0 ≤ k ∧ k < 0 + m then v 12 (0 + (k - 0)) else v 14 k) else v 14 k) = v 12 k
      rw [if_pos rfl, if_pos (by omega), Nat.zero_add, Nat.sub_zero]
  by_cases big : 3000 < n
  · refine ⟨t, Or.inl rfl, ?_⟩
    have ha : f_276 (v 0 5) 3000 v = 3000 := by
      unfold f_276
      rw [h5, if_pos (by omega)]
    obtain ⟨w1, w2, w3, w4⟩ := ld 3000 (Nat.le_refl _)
    refine pre_173 (d := d + 2) ha ⟨by decide, by decide⟩ ?_
    rw [h5]
    have ew : cpV v 12 0 14 0 (Int.toNat 3000) = cpV v 12 0 14 0 3000 := rfl
    rw [ew]
    obtain ⟨w, hw⟩ : ∃ w, cpV v 12 0 14 0 3000 = w := ⟨_, rfl⟩
    rw [hw] at w1 w2 w3 w4 ⊢
    refine xt_call (t1 := t) (y' := 80) (as := [(2, 22), (2, 12), (0, (n : Int))]) (S' := [(2, 0)]) (i := .invokevirtual 84) (r := [80]) rfl rfl rfl rfl rfl (s_80 (d := d) ⟨fun _ => ?_, fun c => absurd (by omega) c⟩)
    refine fin t 1 w _ w1 w2 w3 ⟨fun c a1 a2 => ?_, ?_, fun k hk => ?_⟩ (Or.inl ⟨big, rfl, ?_⟩) (fun e => absurd e (by decide))
    · rw [up_ne (by omega), up_ne (by omega), up_ne (by omega), up_ne (by omega), up_ne (by omega), up_ne (by omega)]
    · obtain ⟨c, c1, c2⟩ := h28
      refine ⟨c, ?_, c2⟩
      rw [up_ne (by decide), up_ne (by decide), up_ne (by decide), up_ne (by decide), up_ne (by decide), up_ne (by decide), w1 28 (by decide)]
      exact c1
    · rw [up_nk (by omega), up_ne (by decide), up_nk (by omega), up_nk (by omega), up_nk (by omega), up_nk (by omega)]
    · rw [if_neg (by decide)]
      rfl
  · refine ⟨12, Or.inr rfl, ?_⟩
    have ha : f_276 (v 0 5) 3000 v = (n : Int) := by
      unfold f_276
      rw [h5, if_neg (by omega)]
    obtain ⟨w1, w2, w3, w4⟩ := ld n (by omega)
    refine pre_173 (d := d + 2) ha ⟨by omega, by omega⟩ ?_
    rw [h5, Int.toNat_natCast]
    obtain ⟨w, hw⟩ : ∃ w, cpV v 12 0 14 0 n = w := ⟨_, rfl⟩
    rw [hw] at w1 w2 w3 w4 ⊢
    have e12 : w 12 = v 12 := w1 12 (by decide)
    obtain ⟨r, hr⟩ := PPr_u (b := v 12) (n := n) (by omega)
    rw [hu] at hr
    have hm : PM u n := by rw [← hu]; exact PM.of
    refine xt_call (t1 := 12) (y' := 80) (as := [(2, 22), (2, 12), (0, (n : Int))]) (S' := [(2, 0)]) (i := .invokevirtual 84) (r := [80]) rfl rfl rfl rfl rfl (check_xt (d := d) hr hd (by omega) ?_ ?_ (by rw [e12]; exact hu) (by rw [w1 28 (by decide)]; exact h28) (fun x v3 hc hf => ?_))
    · unfold TXT at *; rw [e12]; exact ht
    · unfold KWI at *; rw [w1 27 (by decide)]; exact hk
    · obtain ⟨r1, r2⟩ := CKr_RD (by omega) hr hm hc
      refine fin 12 x w v3 w1 w2 w3 hf r1 (fun e => ?_)
      obtain ⟨l, el, hg⟩ := r2 e
      subst el
      obtain ⟨-, c1, c2, c3, c4, c5, -⟩ := hc
      refine ⟨l, hg, c1, c2, c3, c4, c5, ?_⟩
      rw [← hu]
      funext k
      unfold uB
      by_cases hk : k < n
      · rw [if_pos hk, if_pos hk, hf.1 14 (by omega) (by omega), w4 k hk]
      · rw [if_neg hk, if_neg hk]
