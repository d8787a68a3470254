/-! The class's check of a text, behind its words. -/
theorem pack_m {t : Int} {d : Nat} {v : Mem} {Q : Int → Mem → Prop} (hq : Q 660205 v) : RR t (d + 4) 158 [(2, (-4))] v Q := by
  have e0 : w64 ((w64 ((0 : Int) * 37)) + (f_170 (List.getD (sB.getD 2 []) (Int.toNat 0) 0) v)) = 13 := by rfl
  have e1 : w64 ((w64 ((13 : Int) * 37)) + (f_170 (List.getD (sB.getD 2 []) (Int.toNat (w32 (0 + 1))) 0) v)) = 482 := by rfl
  have e2 : w64 ((w64 ((482 : Int) * 37)) + (f_170 (List.getD (sB.getD 2 []) (Int.toNat (w32 (w32 (0 + 1) + 1))) 0) v)) = 17843 := by rfl
  have e3 : w64 ((w64 ((17843 : Int) * 37)) + (f_170 (List.getD (sB.getD 2 []) (Int.toNat (w32 (w32 (w32 (0 + 1) + 1) + 1))) 0) v)) = 660205 := by rfl
  refine w_158_s2 (s_158_s2_4 (d := d) ⟨fun _ => ⟨by decide, ?_⟩, fun c => absurd (by decide) c⟩)
  rw [e0]
  refine s_158_s2_4 (d := d) ⟨fun _ => ⟨by decide, ?_⟩, fun c => absurd (by decide) c⟩
  rw [e1]
  refine s_158_s2_4 (d := d) ⟨fun _ => ⟨by decide, ?_⟩, fun c => absurd (by decide) c⟩
  rw [e2]
  refine s_158_s2_4 (d := d) ⟨fun _ => ⟨by decide, ?_⟩, fun c => absurd (by decide) c⟩
  rw [e3]
  exact s_158_s2_4 (d := d) ⟨fun c => absurd c (by decide), fun _ => hq⟩
theorem ps_end {b : Nat → Int} {n la : Nat} (h : ps (uB b n) n la = n) : ∀ k, ps (uB b n) n (la + k) = n := by
  intro k
  induction k with
  | zero => exact h
  | succ k ih =>
    show en isBl (uB b n) n (toC (uB b n) n (ps (uB b n) n (la + k))) = n
    rw [ih]
    have e : toC (uB b n) n n = n := by
      unfold toC
      rw [word_end]
      rfl
    rw [e, en_end (Nat.le_refl _)]
theorem CR_place {v : Mem} {u : Nat → Int} {n la : Nat} (h : CR v u n la) (j : Nat) : f_156 (j : Int) v = (ps u n j : Nat) := by
  rcases Nat.lt_or_ge la j with hj | hj
  · obtain ⟨⟨w1, w2, w3, w4, w5, w6, w7, w8, w9⟩, h2, h3, h4⟩ := h
    obtain ⟨k, rfl⟩ := Nat.exists_eq_add_of_le (Nat.le_of_lt hj)
    have hk := ps_end w9 k
    rw [h3] at hk
    unfold f_156
    rw [if_neg (by omega), w2, if_neg (by omega), w1, hk]
  · exact h.place hj
/-- there is a main -/
def HM (G : Fn) : Prop := ¬ fno G 660205 = -1 ∧ fnP G 660205 = [] ∧ fnT G 660205 = 0
theorem main_k {t : Int} {d : Nat} {v : Mem} {Q : Int → Mem → Prop} {G : Fn} (h : FNS v G) (h1 : HM G → Q 1 v) (h2 : ¬ HM G → Q 0 v) : RR t (d + 6) 82 [(2, 22)] v Q := by
  refine s_82 (d := d + 4) (pack_m (d := d + 1) (ffind_rr h.1 h.2.1 ?_))
  have ef : fndA (v 2) 660205 G.length 0 = fno G 660205 := fndA_eq _ _ (fun j _ hj => (h.2.2 j (by omega)).1)
  rw [ef, h.ty]
  rcases h.ct 660205 with ⟨e1, e2, e3⟩ | ⟨e1, e2, e3, -⟩
  · exact ⟨fun _ => h2 (fun q => q.1 e1), fun c => absurd e1 c⟩
  · rw [e2]
    refine ⟨fun c => absurd c e1, fun _ => ⟨fun c2 => ⟨fun c3 => h1 ⟨e1, List.eq_nil_of_length_eq_zero (by omega), c3⟩, fun c3 => h2 (fun q => c3 q.2.2)⟩, fun c2 => h2 (fun q => c2 (by rw [q.2.1]; rfl))⟩⟩
/-- what check has found and left; n the bytes, r what the grammar says -/
def CKr (v' : Mem) (u : Nat → Int) (n : Nat) (r : Except Nat (List FnT)) (x : Int) : Prop := match r with
  | .error j => x = 1 ∧ v' 22 7 = (ps u n j : Nat)
  | .ok l => v' 22 7 = -1 ∧ FNS v' (l.map (fnOf u n)) ∧ v' 8 3 = ((coG u n (l.map (fnOf u n)) l 0).length : Nat) ∧ (coG u n (l.map (fnOf u n)) l 0).length ≤ 3100 ∧ AtC v' 0 (coG u n (l.map (fnOf u n)) l 0) ∧ ENT v' u n (l.map (fnOf u n)) 0 0 l ∧
    (¬ mn (-1) (nfG u n (l.map (fnOf u n)) 0 l) = -1 → x = 2 ∧ v' 22 8 = mn (-1) (nfG u n (l.map (fnOf u n)) 0 l)) ∧
    (mn (-1) (nfG u n (l.map (fnOf u n)) 0 l) = -1 → ¬ HM (l.map (fnOf u n)) → x = 2 ∧ v' 22 8 = (n : Nat)) ∧
    (mn (-1) (nfG u n (l.map (fnOf u n)) 0 l) = -1 → HM (l.map (fnOf u n)) → v' 22 8 = -1 ∧ v' 22 9 = ftF (-1) (tfG u n (l.map (fnOf u n)) l) ∧ (¬ ftF (-1) (tfG u n (l.map (fnOf u n)) l) = -1 → x = 3) ∧ (ftF (-1) (tfG u n (l.map (fnOf u n)) l) = -1 → x = 0))
/-- what check leaves alone, but for the words -/
def FrC (v v' : Mem) : Prop := (∀ c, (c < 1 ∨ 11 < c) → c ≠ 22 → (c < 28 ∨ 30 < c) → v' c = v c) ∧ (∃ c : Nat, v' 28 2 = c ∧ c ≤ 30) ∧ ∀ k, k < 4 → v' 22 k = v 22 k
theorem beg_px {s : Int} {v : Mem} {u : Nat → Int} {n la : Nat} {Gc : Fn} (hs : s = 0 ∨ s = 1) (h : CR v u n la) (h6 : v 22 6 = -1) (h28 : ∃ c : Nat, v 28 2 = c ∧ c ≤ 30) (hF : FNS v Gc) : PX s (up (up (up (up (up (up v 22 4 s) 8 3 0) 8 4 s) 22 10 0) 22 12 0) 22 13 0) u n la 0 0 Gc := by
  have ec : ∀ c, c ≠ 22 → c ≠ 8 → up (up (up (up (up (up v 22 4 s) 8 3 0) 8 4 s) 22 10 0) 22 12 0) 22 13 0 c = v c := fun c h1 h2 => by rw [up_ne h1, up_ne h1, up_ne h1, up_ne h2, up_ne h2, up_ne h1]
  refine ⟨⟨h.keep (fun c hc => ec c (by omega) (by omega)) rfl, h6, rfl, Nat.zero_le _⟩, ⟨rfl, rfl, hs⟩, ⟨h28, 0, rfl, by omega⟩, ⟨rfl, by omega⟩, rfl, hF.tab5 (fun c c1 c2 => ec c (by omega) (by omega))⟩
theorem check_k {t : Int} {u : Nat → Int} {n la F g d : Nat} {v : Mem} {Q : Int → Mem → Prop} {r : Except Nat (List FnT)} (hp : PPr (kd u n) F g 0 0 0 = some r) (hd : dB 0 + 10 ≤ d) (hw : WD v n la) (hn : n ≤ 3000) (hu : uB (v 12) n = u) (h6 : v 22 6 = -1) (h7 : v 22 7 = -1) (h8 : v 22 8 = -1) (h9 : v 22 9 = -1) (h1 : v 1 6 = 0) (h28 : ∃ c : Nat, v 28 2 = c ∧ c ≤ 30) (hq : ∀ x v', CKr v' u n r x → FrC v v' → Q x v') : LL t (d + 2) 80 29 [(2, 22), (3, 0), (0, (n : Int)), (3, 0), (3, 0)] [] v Q := by
  have e5 : f_275 0 (w32 ((v 23 7) - 1)) v = (la : Int) := by
    have hl := hw.2.2.1
    rw [hw.2.1, wP1 (by omega)]
    unfold f_275
    split <;> omega
  refine s_80_29 (d := d) ?_
  rw [e5]
  -- the first walk begins
  have c0 : CR (up v 22 5 (la : Int)) u n la := by
    refine ⟨?_, hn, hu, rfl⟩
    unfold WD TR at *
    exact hw
  have f0 : FNS (up v 22 5 (la : Int)) [] := ⟨h1, by show 0 ≤ 20; omega, fun k hk => absurd hk (Nat.not_lt_zero _)⟩
  have p0 := beg_px (s := 0) (Or.inl rfl) c0 h6 h28 f0
  refine s_80_42 (d := d) ⟨fun c => absurd c (by decide), fun _ => ⟨fun _ => ⟨fun c => absurd c (by decide), fun _ => ?_⟩, fun c => absurd h6 c⟩⟩
  have o0 : OW 0 (up v 22 5 (la : Int)) (up (up (up (up (up (up (up v 22 5 (la : Int)) 22 4 0) 8 3 0) 8 4 0) 22 10 0) 22 12 0) 22 13 0) [] [] [] ∨ True := Or.inr trivial
  refine prog_k (s := 0) (G := []) (v0 := up (up (up (up (up (up (up v 22 5 (la : Int)) 22 4 0) 8 3 0) 8 4 0) 22 10 0) 22 12 0) 22 13 0) (by omega) g 0 0 0 r _ [] [] [] [] hp (by rw [if_pos rfl]; exact p0) (fun _ => rfl) (by omega) (Or.inl rfl) (fun h => absurd h (by decide)) (FrW.refl _) (OW.nil (fun _ _ _ => rfl) rfl rfl (fun h => absurd h (by decide))) (fun h => absurd h (by decide)) ?_
  have e2 : w32 ((1 : Int) + 1) = 2 := by rfl
  rw [e2]
  -- what the first walk leaves alone, from v
  have fr0 : ∀ v', FrW (up (up (up (up (up (up (up v 22 5 (la : Int)) 22 4 0) 8 3 0) 8 4 0) 22 10 0) 22 12 0) 22 13 0) v' → (∀ c, (c < 1 ∨ 11 < c) → c ≠ 22 → (c < 28 ∨ 30 < c) → v' c = v c) ∧ (∀ k, (k < 4 ∨ k = 7) → v' 22 k = v 22 k) ∧ (∃ c : Nat, v' 28 2 = c ∧ c ≤ 30) := by
    intro v' hf
    refine ⟨fun c a1 a2 a3 => ?_, fun k hk => ?_, hf.2.2 h28⟩
    · rw [hf.1 c a1 a2 a3, up_ne a2, up_ne a2, up_ne a2, up_ne (by omega), up_ne (by omega), up_ne a2, up_ne a2]
    · rw [hf.2.1 k (by omega), up_nk (by omega), up_nk (by omega), up_nk (by omega), up_ne (by decide), up_ne (by decide), up_nk (by omega), up_nk (by omega)]
  match r, hp, hq with
  | .error j, hp, hq =>
    intro v' hx
    obtain ⟨fr1, fr2, fr3⟩ := fr0 v' hx.2
    refine s_80_42 (d := d) ⟨fun c => absurd c (by decide), fun _ => ⟨fun c => ?_, fun _ => ?_⟩⟩
    · rw [hx.1.2.1] at c
      exact absurd c (by omega)
    · refine s_80_116 (d := d + 1) ⟨fun c => ?_, fun _ => ?_⟩
      · rw [hx.1.2.1] at c
        exact absurd c (by omega)
      · have hj : j ≤ la ∨ True := Or.inr trivial
        refine hq 1 _ ⟨rfl, ?_⟩ ⟨fun c a1 a2 a3 => ?_, fr3, fun k hk => ?_⟩
        · rw [up_k, hx.1.2.1]
          exact CR_place hx.1.1 j
        · rw [up_ne (by omega)]
          exact fr1 c a1 (by omega) (by omega)
        · rw [up_nk (by omega)]
          exact fr2 k (by omega)
  | .ok l, hp, hq =>
    intro v' i' st' hx hf ho _
    obtain ⟨fr1, fr2, fr3⟩ := fr0 v' hf
    rw [if_pos rfl, List.nil_append] at hx
    have hlen : l.length ≤ 20 := by
      have := hx.2.2.2.2.2.2.1
      rw [List.length_map] at this
      exact this
    have o8 := (ho.1 rfl).2.2.2.2
    have v8 : v' 22 8 = -1 := o8.1.trans h8
    have v9 : v' 22 9 = -1 := o8.2.trans h9
    refine s_80_42 (d := d) ⟨fun c => absurd c (by decide), fun _ => ⟨fun _ => ⟨fun _ => ?_, fun c => absurd rfl c⟩, fun c => absurd hx.1.2.1 c⟩⟩
    have p1 := beg_px (s := 1) (Or.inr rfl) hx.1.1 hx.1.2.1 hx.2.2.1.1 hx.2.2.2.2.2
    refine prog_k (s := 1) (G := l.map (fnOf u n)) (v0 := up (up (up (up (up (up v' 22 4 1) 8 3 0) 8 4 1) 22 10 0) 22 12 0) 22 13 0) (by omega) g 0 0 0 (.ok l) _ [] [] [] [] hp (by rw [if_neg (by decide)]; exact p1) (fun h => absurd h (by decide)) (by omega) (Or.inl rfl) (fun _ => by show (0 : Int) ≤ _; omega) (FrW.refl _) (OW.nil (fun _ _ _ => rfl) rfl rfl (fun _ => ⟨0, rfl⟩)) (fun _ => ⟨l, [], rfl, rfl, rfl⟩) ?_
    have e3 : w32 ((2 : Int) + 1) = 3 := by rfl
    rw [e3]
    intro v2 i2 st2 hx2 hf2 ho2 he2
    rw [if_neg (by decide)] at hx2
    obtain ⟨pc, q1, q2, q3, q4, q5, q6⟩ := ho2.2 rfl
    have hpc : pc = 0 := by
      have : (0 : Int) = (pc : Int) := q1
      omega
    subst hpc
    have hent := (he2 rfl).1
    have ez : (up (up (up (up (up (up v' 22 4 1) 8 3 0) 8 4 1) 22 10 0) 22 12 0) 22 13 0 8 3).toNat + ([] : Ac).length = 0 := rfl
    rw [ez] at q2 q3 hent
    rw [List.nil_append] at q2 q3 q5 q6
    have q5 : v2 22 8 = mn (v' 22 8) (nfG u n (l.map (fnOf u n)) 0 l) := q5
    have q6 : v2 22 9 = ftF (v' 22 9) (tfG u n (l.map (fnOf u n)) l) := q6
    rw [v8] at q5
    rw [v9] at q6
    rw [Nat.zero_add] at q2
    have hF := hx2.2.2.2.2.2
    have v27 : v2 22 7 = -1 := by
      rw [hf2.2.1 7 (by omega)]
      show v' 22 7 = -1
      rw [fr2 7 (by omega)]; exact h7
    have hcl : (coG u n (l.map (fnOf u n)) l 0).length ≤ 3100 := by
      obtain ⟨c, hc, hc2⟩ := hx2.2.2.1.2
      rw [q2] at hc
      omega
    have frC : FrC v v2 := by
      refine ⟨fun c a1 a2 a3 => ?_, hx2.2.2.1.1, fun k hk => ?_⟩
      · rw [hf2.1 c a1 (by omega) (by omega), up_ne (by omega), up_ne (by omega), up_ne (by omega), up_ne (by omega), up_ne (by omega), up_ne (by omega)]
        exact fr1 c a1 (by omega) (by omega)
      · rw [hf2.2.1 k (by omega), up_nk (by omega), up_nk (by omega), up_nk (by omega), up_ne (by decide), up_ne (by decide), up_nk (by omega)]
        exact fr2 k (by omega)
    have done : ∀ x, ((¬ mn (-1) (nfG u n (l.map (fnOf u n)) 0 l) = -1 → x = 2 ∧ v2 22 8 = mn (-1) (nfG u n (l.map (fnOf u n)) 0 l)) ∧ (mn (-1) (nfG u n (l.map (fnOf u n)) 0 l) = -1 → HM (l.map (fnOf u n)) ∧ (¬ ftF (-1) (tfG u n (l.map (fnOf u n)) l) = -1 → x = 3) ∧ (ftF (-1) (tfG u n (l.map (fnOf u n)) l) = -1 → x = 0))) → Q x v2 := by
      intro x hx
      exact hq x v2 ⟨v27, hF, q2, hcl, q3, hent, hx.1, fun a b => absurd (hx.2 a).1 b, fun a b => ⟨q5.trans a, q6, (hx.2 a).2.1, (hx.2 a).2.2⟩⟩ frC
    refine s_80_42 (d := d) ⟨fun _ => ?_, fun c => absurd (by decide) c⟩
    refine s_80_116 (d := d + 1) ⟨fun _ => ⟨fun c8 => ?_, fun c8 => ⟨fun c => absurd c c8, fun _ => done 2 ⟨fun _ => ⟨rfl, q5⟩, fun a => absurd (q5.trans a) c8⟩⟩⟩, fun c => absurd hx2.1.2.1 c⟩
    obtain ⟨d', rfl⟩ : ∃ d', d = d' + 5 := ⟨d - 5, by omega⟩
    have m8 : mn (-1) (nfG u n (l.map (fnOf u n)) 0 l) = -1 := q5.symm.trans c8
    refine main_k (d := d') hF (fun hm => ⟨fun c => absurd c (by decide), fun _ => ⟨fun _ => ⟨fun c9 => ?_, fun c9 => ?_⟩, fun c => absurd c8 c⟩⟩) (fun hm => ⟨fun _ => ⟨fun c => absurd c (by omega), fun _ => ?_⟩, fun c => absurd rfl c⟩)
    · exact done 0 ⟨fun a => absurd m8 a, fun _ => ⟨hm, fun a => absurd (q6.symm.trans c9) a, fun _ => rfl⟩⟩
    · exact done 3 ⟨fun a => absurd m8 a, fun _ => ⟨hm, fun _ => rfl, fun a => absurd (q6.trans a) c9⟩⟩
    · refine hq 2 _ ⟨v27, hF.tab5 (fun c c1 c2 => up_ne (by omega)), q2, hcl, AtC_same _ _ (fun c k c1 c2 _ _ => by rw [up_ne (by omega)]) q3, ENT.same _ _ _ (fun c k hc _ _ => by rw [up_ne (by omega)]) hent, fun a => absurd m8 a, fun _ _ => ⟨rfl, up_k⟩, fun _ a => absurd a hm⟩ ⟨fun c a1 a2 a3 => ?_, frC.2.1, fun k hk => ?_⟩
      · rw [up_ne (by omega)]; exact frC.1 c a1 a2 a3
      · rw [up_nk (by omega)]; exact frC.2.2 k hk
