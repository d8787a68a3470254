/-! All words of a text: the i-th one, and the class's rows of them. -/
def stq (u : Nat → Int) (n : Nat) : Nat → Nat
  | 0 => 0
  | i + 1 => toC u n (en isBl u n (stq u n i))
/-- the place, kind and value of word i -/
def ps (u : Nat → Int) (n i : Nat) : Nat := en isBl u n (stq u n i)
def kd (u : Nat → Int) (n i : Nat) : Int := (wordAt u n (ps u n i)).1
def vl (u : Nat → Int) (n i : Nat) : Int := (wordAt u n (ps u n i)).2.2
theorem word_adv {b : Nat → Int} {n a : Nat} (ha : a < n) : (wordAt (uB b n) n a).1 ≠ 0 ∧ ((wordAt (uB b n) n a).1 = 1 ∨ a < (wordAt (uB b n) n a).2.1) := by
  have h0 : ¬ uB b n a < 0 := by rw [uB_in ha]; omega
  unfold wordAt
  rw [if_neg h0]
  split
  · rename_i hl
    have hnm : isNm (uB b n a) = true := by unfold isNm; rw [hl]; rfl
    split
    · have h1 := en_b (p := isNm) (u := uB b n) (show a + 1 ≤ n from ha)
      refine ⟨?_, Or.inr ?_⟩
      · show kwK _ ≠ 0
        rcases kwK_or (segU (uB b n) a (en isNm (uB b n) n a - a)) with h | h
        · rw [h.1]; decide
        · omega
      · show a < en isNm (uB b n) n a
        rw [en_go hnm ha]
        omega
    · exact ⟨Int.one_ne_zero, Or.inl rfl⟩
  · split
    · rename_i hd
      split
      · have h1 := en_b (p := isDg) (u := uB b n) (show a + 1 ≤ n from ha)
        refine ⟨by show (3 : Int) ≠ 0; decide, Or.inr ?_⟩
        show a < en isDg (uB b n) n a
        rw [en_go hd ha]
        omega
      · exact ⟨Int.one_ne_zero, Or.inl rfl⟩
    · split
      · split
        · have h1 := en_b (p := isQt) (u := uB b n) (show a + 1 ≤ n from ha)
          refine ⟨by show (4 : Int) ≠ 0; decide, Or.inr ?_⟩
          show a < en isQt (uB b n) n (a + 1) + 1
          omega
        · exact ⟨Int.one_ne_zero, Or.inl rfl⟩
      · split
        · rename_i hsg
          have hc := sL1_c _ (isSg_1.mp hsg)
          split
          · refine ⟨by show 128 + uB b n a ≠ 0; omega, Or.inr ?_⟩
            show a < a + 2
            omega
          · refine ⟨by show uB b n a ≠ 0; omega, Or.inr ?_⟩
            show a < a + 1
            omega
        · exact ⟨Int.one_ne_zero, Or.inl rfl⟩
theorem toC_adv {b : Nat → Int} {n a : Nat} (ha : a < n) : a < toC (uB b n) n a ∧ toC (uB b n) n a ≤ n := by
  have h1 := (word_adv (b := b) ha).2
  have h2 := wordAt_to (u := uB b n) (b := b) rfl (Nat.le_of_lt ha)
  unfold toC
  split
  · exact ⟨ha, Nat.le_refl _⟩
  · rename_i hk
    rcases h1 with h | h
    · exact absurd h hk
    · exact ⟨h, h2.2⟩
theorem word_end {b : Nat → Int} {n : Nat} : wordAt (uB b n) n n = (0, n, 0) := by
  unfold wordAt
  rw [uB_out (Nat.le_refl n), if_pos (by decide)]
/-- rows 0 .. c - 1 of the class are the words 0 .. c - 1 -/
def TR (v : Mem) (u : Nat → Int) (n c : Nat) : Prop := ∀ i, i < c → v 24 i = kd u n i ∧ v 25 i = ps u n i ∧ v 26 i = vl u n i ∧ kd u n i ≠ 0
/-- the class has cut the text (cell 12, n bytes) into words; the last one is END -/
def WD (v : Mem) (n la : Nat) : Prop := v 23 5 = n ∧ v 23 7 = ((la + 1 : Nat) : Int) ∧ la ≤ n ∧ TR v (uB (v 12) n) n la ∧ v 24 la = 0 ∧ v 25 la = n ∧ v 26 la = 0 ∧ kd (uB (v 12) n) n la = 0 ∧ ps (uB (v 12) n) n la = n
def Fr4 (v v' : Mem) : Prop := ∀ c, c ≠ 23 → c ≠ 24 → c ≠ 25 → c ≠ 26 → v' c = v c
theorem Fr4.refl (v : Mem) : Fr4 v v := fun _ _ _ _ _ => rfl
theorem Fr4.trans {v v' v'' : Mem} (h : Fr4 v v') (h' : Fr4 v' v'') : Fr4 v v'' := fun c a b e f => (h' c a b e f).trans (h c a b e f)
theorem Fr4.up23 {v : Mem} {k : Nat} {a : Int} : Fr4 v (up v 23 k a) := fun c h _ _ _ => up_ne h
theorem Fr4.row {v : Mem} {c : Nat} {k a val x : Int} : Fr4 v (wrow v c k a val x) := fun e h1 h2 h3 h4 => by
  unfold wrow
  rw [up_ne h1, up_ne h1, up_ne h4, up_ne h3, up_ne h2]
theorem wrow_24 {v : Mem} {c : Nat} {k a val x : Int} {i : Nat} : wrow v c k a val x 24 i = if i = c then k else v 24 i := rfl
theorem wrow_25 {v : Mem} {c : Nat} {k a val x : Int} {i : Nat} : wrow v c k a val x 25 i = if i = c then a else v 25 i := rfl
theorem wrow_26 {v : Mem} {c : Nat} {k a val x : Int} {i : Nat} : wrow v c k a val x 26 i = if i = c then val else v 26 i := rfl
theorem TR_row {v : Mem} {u : Nat → Int} {n c : Nat} {x : Int} (h : TR v u n c) (hk : kd u n c ≠ 0) : TR (wrow v c (kd u n c) (ps u n c) (vl u n c) x) u n (c + 1) := by
  intro i hi
  rw [wrow_24, wrow_25, wrow_26]
  by_cases e : i = c
  · subst e
    rw [if_pos rfl, if_pos rfl, if_pos rfl]
    exact ⟨rfl, rfl, rfl, hk⟩
  · rw [if_neg e, if_neg e, if_neg e]
    exact h i (by omega)
theorem split_lp {d : Nat} {Q : Int → Mem → Prop} {n : Nat} (hn : n ≤ 3000) : ∀ (m a c l : Nat) (v : Mem), n ≤ a + m → a ≤ n → l ≤ a → c ≤ a → v 23 6 = a → v 23 7 = c → v 23 5 = n → TXT 12 v n → KWI v → TR v (uB (v 12) n) n c → en isBl (uB (v 12) n) n a = ps (uB (v 12) n) n c → (∀ v' la, WD v' n la → Fr4 v v' → Q 0 v') → LL 12 (d + 9) 153 45 [(2, 23), (3, 0), (3, 0), (0, (l : Int))] [] v Q := by
  intro m
  induction m with
  | zero =>
    intro a c l v hm ha hl hc hat hcn hs ht hk hT he hq
    have ea : a = n := by omega
    subst ea
    have hl2 : (l : Int) < 3002 := by omega
    refine s_153_45 (d := d + 8) ⟨fun _ => ⟨fun h => ?_, fun _ => ?_⟩, fun h => absurd hl2 h⟩
    · rw [hat, hs] at h
      exact absurd h (Int.lt_irrefl _)
    · rw [en_end (Nat.le_refl _)] at he
      rw [m166 hcn (by omega), hs]
      have hp : ps (uB (v 12) a) a c = a := he.symm
      have hk0 : kd (uB (v 12) a) a c = 0 := by unfold kd; rw [hp, word_end]
      refine hq _ c ⟨hs, rfl, hc, ?_, ?_, ?_, ?_, hk0, hp⟩ ?_
      · intro i hi
        have h1 := hT i hi
        have hne : ¬ i = c := by omega
        refine ⟨?_, ?_, ?_, h1.2.2.2⟩
        · show (if i = c then (0 : Int) else v 24 i) = _
          rw [if_neg hne]; exact h1.1
        · show (if i = c then (a : Int) else v 25 i) = _
          rw [if_neg hne]; exact h1.2.1
        · show (if i = c then (0 : Int) else v 26 i) = _
          rw [if_neg hne]; exact h1.2.2.1
      · show (if c = c then (0 : Int) else v 24 c) = 0
        rw [if_pos rfl]
      · show (if c = c then (a : Int) else v 25 c) = a
        rw [if_pos rfl]
      · show (if c = c then (0 : Int) else v 26 c) = 0
        rw [if_pos rfl]
      · intro e h1 h2 h3 h4
        rw [up_ne h1, up_ne h4, up_ne h3, up_ne h2]
  | succ m ih =>
    intro a c l v hm ha hl hc hat hcn hs ht hk hT he hq
    by_cases ea : a = n
    · exact ih a c l v (by omega) ha hl hc hat hcn hs ht hk hT he hq
    · have han : a < n := by omega
      have hl2 : (l : Int) < 3002 := by omega
      have hln : l < 3002 := by omega
      have hc2 : c < 3002 := by omega
      refine s_153_45 (d := d + 8) ⟨fun _ => ⟨fun _ => ?_, fun h => ?_⟩, fun h => absurd hl2 h⟩
      · rw [wS hln (by decide)]
        refine takeWord_rr (d := d) hs ht hn hat hcn hc2 hk han (fun hb => ?_) (fun hb => ?_)
        · exact ih (a + 1) c (l + 1) _ (by omega) han (by omega) (by omega) rfl hcn hs ht hk hT (by
            show en isBl (uB (v 12) n) n (a + 1) = ps (uB (v 12) n) n c
            rw [← he]
            exact (en_go hb han).symm) (fun v' la h1 h2 => hq v' la h1 (Fr4.up23.trans h2))
        · rw [en_stop hb] at he
          have hk0 := word_adv (b := v 12) han
          have ha2 := toC_adv (b := v 12) han
          have e3 : (wordAt (uB (v 12) n) n a).1 = kd (uB (v 12) n) n c := by unfold kd; rw [← he]
          have e4 : (wordAt (uB (v 12) n) n a).2.2 = vl (uB (v 12) n) n c := by unfold vl; rw [← he]
          have e5 : en isBl (uB (v 12) n) n (toC (uB (v 12) n) n a) = ps (uB (v 12) n) n (c + 1) := by
            show _ = en isBl (uB (v 12) n) n (toC (uB (v 12) n) n (ps (uB (v 12) n) n c))
            rw [← he]
          have e6 : ((a : Nat) : Int) = ((ps (uB (v 12) n) n c : Nat) : Int) := by rw [← he]
          rw [e3] at hk0
          rw [e3, e4]
          have hT2 := TR_row (x := ((toC (uB (v 12) n) n a : Nat) : Int)) hT hk0.1
          rw [← e6] at hT2
          exact ih (toC (uB (v 12) n) n a) (c + 1) (l + 1) _ (by omega) ha2.2 (by omega) (by omega) rfl rfl hs ht hk hT2 e5 (fun v' la h1 h2 => hq v' la h1 (Fr4.row.trans h2))
      · rw [hat, hs] at h
        exact absurd (by omega) h
theorem RF_put (t : Int) : up (RF t) 23 4 12 = RF 12 := by
  funext c k
  unfold up
  by_cases hc : c = 23
  · subst hc
    rw [if_pos rfl]
    by_cases hk : k = 4
    · subst hk; rw [if_pos rfl]; rfl
    · rw [if_neg hk]
      match k, hk with
      | 0, _ => rfl
      | 1, _ => rfl
      | 2, _ => rfl
      | 3, _ => rfl
      | 4, hk => exact absurd rfl hk
      | _ + 5, _ => rfl
  · rw [if_neg hc]
    unfold RF
    have : Nat.beq c 23 = false := by
      cases h : Nat.beq c 23 with
      | false => rfl
      | true => exact absurd (Nat.eq_of_beq_eq_true h) hc
    rw [this]
    rfl
/-- a method that sets the text of Words -/
def RT (t : Int) (d y : Nat) (as : List AV) (v : Mem) (Q : Int → Mem → Prop) : Prop := ∃ (x : Int) (v' : Mem), xR d y 0 (entL y as) [] (sg t v) = some (rvOf y x, sg 12 v') ∧ Q x v'
theorem split_in {t : Int} {d : Nat} {v : Mem} {Q : Int → Mem → Prop} {l2 : Int} (h : LL 12 d 153 5 [(2, 23), (2, 12), (0, l2), (3, 0)] [] v Q) : RT t d 153 [(2, 23), (2, 12), (0, l2)] v Q := by
  obtain ⟨x, v', h1, h2⟩ := h
  refine ⟨x, v', ?_, h2⟩
  have s1 : xr d 153 0 [(2, 23), (2, 12), (0, l2), (3, 0)] [] (sg t v) = xr d 153 1 [(2, 23), (2, 12), (0, l2), (3, 0)] [(2, 23)] (sg t v) := x_stp (i := .aload_n 0) (r := []) rfl rfl rfl
  have s2 : xr d 153 1 [(2, 23), (2, 12), (0, l2), (3, 0)] [(2, 23)] (sg t v) = xr d 153 2 [(2, 23), (2, 12), (0, l2), (3, 0)] [(2, 12), (2, 23)] (sg t v) := x_stp (i := .aload_n 1) (r := []) rfl rfl rfl
  have s3 : xr d 153 2 [(2, 23), (2, 12), (0, l2), (3, 0)] [(2, 12), (2, 23)] (sg t v) = xr d 153 5 [(2, 23), (2, 12), (0, l2), (3, 0)] [] (sPutR (sg t v) 23 4 12) := x_stp (i := .putfield 25) (r := [2, 8, 4, 0]) rfl rfl rfl
  have s4 : sPutR (sg t v) 23 4 12 = sg 12 v := by
    show (82, nSl, SH, up (RF t) 23 4 12, v) = (82, nSl, SH, RF 12, v)
    rw [RF_put]
  have e : xr d 153 0 (entL 153 [(2, 23), (2, 12), (0, l2)]) [] (sg t v) = xr d 153 5 [(2, 23), (2, 12), (0, l2), (3, 0)] [] (sg 12 v) := by
    rw [← s4, ← s3, ← s2, ← s1]
    rfl
  unfold xR at h1 ⊢
  rw [e]
  exact h1
theorem split_rt {t : Int} {d n : Nat} {v : Mem} {Q : Int → Mem → Prop} (hn : n ≤ 3000) (ht : TXT 12 v n) (hk : KWI v) (hq : ∀ v' la, WD v' n la → Fr4 v v' → Q 0 v') : RT t (d + 9) 153 [(2, 23), (2, 12), (0, (n : Int))] v Q := by
  refine split_in (s_153_5 (d := d + 8) ?_)
  have e : f_275 0 (f_276 (n : Int) (f_276 3200 3000 v) v) v = n := by
    unfold f_275 f_276
    have h1 : ¬ ((3000 : Int) < (n : Int)) := by omega
    rw [if_pos (show (3000 : Int) < 3200 by decide), if_neg h1]
    by_cases h2 : (0 : Int) < n
    · rw [if_pos h2]
    · rw [if_neg h2]; omega
  rw [e]
  exact split_lp hn n 0 0 0 _ (by omega) (Nat.zero_le _) (Nat.le_refl _) (Nat.le_refl _) rfl rfl rfl ht hk (fun i hi => absurd hi (Nat.not_lt_zero i)) rfl (fun v' la h1 h2 => hq v' la h1 (((Fr4.up23.trans Fr4.up23).trans Fr4.up23).trans h2))
