/-! The class's words: names, numbers, quotes, signs. -/
theorem nm_of {u : Nat → Int} {i k : Nat} (hj : ∀ j, i ≤ j → j < k → isNm (u j) = true) (hik : i ≤ k) : ∀ c ∈ segU u i (k - i), isNm c = true := segU_nm _ _ (fun j h1 h2 => hj j h1 (by omega))
theorem w_sub {i k : Nat} {a : Int} (ha : a = i) (hik : i ≤ k) (hk : k ≤ 5000) : w32 ((k : Int) - a) = ((k - i : Nat) : Int) := wNat (by omega) (by omega)
theorem takeName_exit {d : Nat} {v : Mem} {Q : Int → Mem → Prop} {n i c k : Nat} (hs : v 23 5 = n) (hn : n ≤ 3000) (hat : v 23 6 = i) (hc : v 23 7 = c) (hc2 : c < 3002) (hk : KWI v)
    (hq1 : k - i ≤ 12 → Q 0 (wrow v c (kwK (segU (uB (v 12) n) i (k - i))) i (pkA (uB (v 12) n) 0 i (k - i)) (k : Int))) (hq2 : ¬ k - i ≤ 12 → Q 0 (wrow v c 1 i 0 n)) (hik : i ≤ k) (hkn : k ≤ n) (hj : ∀ j, i ≤ j → j < k → isNm (uB (v 12) n j) = true) :
    ((12 < (w32 ((k : Int) - (v 23 6))) → Q 0 (up (m_166 1 (v 23 6) 0 v) 23 6 (m_166 1 (v 23 6) 0 v 23 5))) ∧ (¬ 12 < (w32 ((k : Int) - (v 23 6))) → (RR 12 (d + 2) 161 [(2, 23), (1, w64 (pkA (uB (v 12) n) 0 i (k - i)))] v (fun x4 v4 => Q 0 (up (m_166 x4 (v4 23 6) (w64 (pkA (uB (v 12) n) 0 i (k - i))) v4) 23 6 (k : Int)))))) := by
  rw [w_sub hat hik (Nat.le_trans hkn (Nat.le_trans hn (by decide)))]
  refine ⟨fun h => ?_, fun h => ?_⟩
  · rw [m166_5 hc hc2, m166 hc hc2, hs, hat]
    exact hq2 (by omega)
  · have h12 : k - i ≤ 12 := by omega
    have hnm := nm_of hj hik
    have hq := hq1 h12
    rw [pk_fit hnm h12]
    rw [pk_seg] at hq
    refine keywordOr_rr hk hnm ?_
    rw [m166 hc hc2, hat]
    exact hq
theorem nm_step {u : Nat → Int} {i k : Nat} (hj : ∀ j, i ≤ j → j < k → isNm (u j) = true) (h0 : isNm (u k) = true) : ∀ j, i ≤ j → j < k + 1 → isNm (u j) = true := fun j h1 h2 => by
  by_cases hjk : j = k
  · rw [hjk]; exact h0
  · exact hj j h1 (by omega)
theorem takeName_rr {d : Nat} {v : Mem} {Q : Int → Mem → Prop} {n i c : Nat} (hs : v 23 5 = n) (ht : TXT 12 v n) (hn : n ≤ 3000) (hat : v 23 6 = i) (hc : v 23 7 = c) (hc2 : c < 3002) (hk : KWI v) (hlt : isLt (uB (v 12) n i) = true)
    (hq1 : en isNm (uB (v 12) n) n i - i ≤ 12 → Q 0 (wrow v c (kwK (segU (uB (v 12) n) i (en isNm (uB (v 12) n) n i - i))) i (pkA (uB (v 12) n) 0 i (en isNm (uB (v 12) n) n i - i)) ((en isNm (uB (v 12) n) n i : Nat) : Int))) (hq2 : ¬ en isNm (uB (v 12) n) n i - i ≤ 12 → Q 0 (wrow v c 1 i 0 n)) : RR 12 (d + 3) 160 [(2, 23)] v Q := by
  have hin : i < n := p_lt (by decide) hlt
  have hn5 : n ≤ 5000 := Nat.le_trans hn (by decide)
  have lp : ∀ (f k : Nat), k + f = n → i ≤ k → (∀ j, i ≤ j → j < k → isNm (uB (v 12) n j) = true) → en isNm (uB (v 12) n) n i = en isNm (uB (v 12) n) n k → LL 12 (d + 3) 160 13 [(2, 23), (0, (k : Int)), (1, w64 (pkA (uB (v 12) n) 0 i (k - i))), (3, 0), (0, (k : Int))] [] v Q := by
    intro f
    induction f with
    | zero =>
      intro k hk2 hik hj he
      obtain ⟨z1, z2, z3⟩ := lpZ hk2
      rw [en_end z1] at he
      rw [he] at hq1 hq2
      refine s_160_13 (d := d + 1) ?_
      rw [hs]
      exact ⟨fun h => absurd h z3, fun _ => takeName_exit hs hn hat hc hc2 hk hq1 hq2 hik z2 hj⟩
    | succ f ih =>
      intro k hk2 hik hj he
      obtain ⟨z1, z2, z3, z4, z5⟩ := lpS hk2 hik
      have e2 := wS z3 hn5
      have e3 := pk_snoc (u := uB (v 12) n) hik
      refine s_160_13 (d := d + 1) ?_
      rw [f167 hs ht, f170, hs]
      refine ⟨fun _ => ⟨fun h => ?_, fun h => ?_⟩, fun h => absurd z5 h⟩
      · have h0 := dgt_pos.mp h
        rw [e2, e3]
        exact ih (k + 1) z1 z2 (nm_step hj h0) (by rw [he, en_go h0 z3])
      · have h0 : isNm (uB (v 12) n k) = false := by
          cases hz : isNm (uB (v 12) n k) with
          | false => rfl
          | true => exact absurd (dgt_pos.mpr hz) h
        rw [en_stop h0] at he
        rw [he] at hq1 hq2
        exact takeName_exit hs hn hat hc hc2 hk hq1 hq2 hik z4 hj
  refine w_160 ?_
  rw [hat]
  have h9 := lp (n - i) i (Nat.add_sub_cancel' (Nat.le_of_lt hin)) (Nat.le_refl _) (fun j h1 h2 => absurd h2 (Nat.not_lt.mpr h1)) rfl
  rw [Nat.sub_self] at h9
  exact h9
theorem takeNumber_exit {v : Mem} {Q : Int → Mem → Prop} {n i c k : Nat} {acc l2 : Int} (hs : v 23 5 = n) (hat : v 23 6 = i) (hc : v 23 7 = c) (hc2 : c < 3002)
    (hq1 : acc ≤ 2147483647 → Q 0 (wrow v c 3 i acc (k : Int))) (hq2 : ¬ acc ≤ 2147483647 → Q 0 (wrow v c 1 i 0 n)) (hl : (acc ≤ 2147483647 ∧ l2 = acc) ∨ (2147483647 < acc ∧ 2147483647 < l2)) :
    ((0 < (lcm3 l2 2147483647) → Q 0 (up (m_166 1 (v 23 6) 0 v) 23 6 (m_166 1 (v 23 6) 0 v 23 5))) ∧ (¬ 0 < (lcm3 l2 2147483647) → Q 0 (up (m_166 3 (v 23 6) l2 v) 23 6 (k : Int)))) := by
  refine ⟨fun h => ?_, fun h => ?_⟩
  · have h1 := lcm3_pos.mp h
    rw [m166_5 hc hc2, m166 hc hc2, hs, hat]
    exact hq2 (by omega)
  · have h1 : ¬ 2147483647 < l2 := fun h2 => h (lcm3_pos.mpr h2)
    have h2 : l2 = acc := by omega
    rw [m166 hc hc2, hat, h2]
    exact hq1 (by omega)
theorem num_step {u : Nat → Int} {n i k : Nat} {acc : Int} (hd : isDg (u k) = true) (hk : k < n) (ha : numA u 0 i (en isDg u n i - i) = numA u acc k (en isDg u n k - k)) : numA u 0 i (en isDg u n i - i) = numA u (acc * 10 + (u k - 48)) (k + 1) (en isDg u n (k + 1) - (k + 1)) := by
  have hge := en_b (p := isDg) (u := u) (show k + 1 ≤ n from hk)
  rw [ha, en_go hd hk]
  rw [show en isDg u n (k + 1) - k = (en isDg u n (k + 1) - (k + 1)) + 1 by omega]
  rfl
theorem num_a {acc x l2 : Int} (hl : (acc ≤ 2147483647 ∧ l2 = acc) ∨ (2147483647 < acc ∧ 2147483647 < l2)) (h0 : 0 ≤ acc) (hr : 48 ≤ x ∧ x ≤ 57) (h : 2147483647 < l2) : 0 ≤ acc * 10 + (x - 48) ∧ ((acc * 10 + (x - 48) ≤ 2147483647 ∧ l2 = acc * 10 + (x - 48)) ∨ (2147483647 < acc * 10 + (x - 48) ∧ 2147483647 < l2)) := by omega
theorem num_b {acc x l2 : Int} (hl : (acc ≤ 2147483647 ∧ l2 = acc) ∨ (2147483647 < acc ∧ 2147483647 < l2)) (h0 : 0 ≤ acc) (hr : 48 ≤ x ∧ x ≤ 57) (h : ¬ 2147483647 < l2) : w64 (w64 (l2 * 10) + w32 (x - 48)) = acc * 10 + (x - 48) ∧ 0 ≤ acc * 10 + (x - 48) ∧ ((acc * 10 + (x - 48) ≤ 2147483647 ∧ acc * 10 + (x - 48) = acc * 10 + (x - 48)) ∨ (2147483647 < acc * 10 + (x - 48) ∧ 2147483647 < acc * 10 + (x - 48))) := by
  have h4 : l2 = acc := by omega
  refine ⟨?_, by omega, by omega⟩
  rw [h4, w32_id (by omega) (by omega), w64_id (a := acc * 10) (by omega) (by omega), w64_id (by omega) (by omega)]
theorem takeNumber_rr {d : Nat} {v : Mem} {Q : Int → Mem → Prop} {n i c : Nat} (hs : v 23 5 = n) (ht : TXT 12 v n) (hn : n ≤ 3000) (hat : v 23 6 = i) (hc : v 23 7 = c) (hc2 : c < 3002) (hi : i ≤ n)
    (hq1 : numA (uB (v 12) n) 0 i (en isDg (uB (v 12) n) n i - i) ≤ 2147483647 → Q 0 (wrow v c 3 i (numA (uB (v 12) n) 0 i (en isDg (uB (v 12) n) n i - i)) ((en isDg (uB (v 12) n) n i : Nat) : Int))) (hq2 : ¬ numA (uB (v 12) n) 0 i (en isDg (uB (v 12) n) n i - i) ≤ 2147483647 → Q 0 (wrow v c 1 i 0 n)) : RR 12 (d + 3) 162 [(2, 23)] v Q := by
  have hn5 : n ≤ 5000 := Nat.le_trans hn (by decide)
  have lp : ∀ (f k : Nat) (acc l2 : Int), k + f = n → i ≤ k → 0 ≤ acc → ((acc ≤ 2147483647 ∧ l2 = acc) ∨ (2147483647 < acc ∧ 2147483647 < l2)) → en isDg (uB (v 12) n) n i = en isDg (uB (v 12) n) n k → numA (uB (v 12) n) 0 i (en isDg (uB (v 12) n) n i - i) = numA (uB (v 12) n) acc k (en isDg (uB (v 12) n) n k - k) → LL 12 (d + 3) 162 13 [(2, 23), (0, (k : Int)), (1, l2), (3, 0), (0, (k : Int))] [] v Q := by
    intro f
    induction f with
    | zero =>
      intro k acc l2 hk hik h0 hl he ha
      obtain ⟨z1, z2, z3⟩ := lpZ hk
      rw [en_end z1] at he ha
      rw [Nat.sub_self] at ha
      rw [ha, he] at hq1
      rw [ha] at hq2
      refine s_162_13 (d := d + 1) ?_
      rw [hs]
      exact ⟨fun h => absurd h z3, fun _ => takeNumber_exit hs hat hc hc2 hq1 hq2 hl⟩
    | succ f ih =>
      intro k acc l2 hk hik h0 hl he ha
      obtain ⟨z1, z2, z3, z4, z5⟩ := lpS hk hik
      have e2 := wS z3 hn5
      refine s_162_13 (d := d + 1) ?_
      rw [f167 hs ht, f169, hs]
      refine ⟨fun _ => ⟨fun h => ?_, fun h => ?_⟩, fun h => absurd z5 h⟩
      · have hd := b2i_0.mp h
        rw [en_stop hd] at he ha
        rw [Nat.sub_self] at ha
        rw [ha, he] at hq1
        rw [ha] at hq2
        exact takeNumber_exit hs hat hc hc2 hq1 hq2 hl
      · have hd := b2i_ne.mp h
        have hr := isDg_r.mp hd
        have ha2 := num_step hd z3 ha
        have he2 : en isDg (uB (v 12) n) n i = en isDg (uB (v 12) n) n (k + 1) := by rw [he, en_go hd z3]
        rw [e2]
        refine ⟨fun h2 => ?_, fun h2 => ?_⟩
        · obtain ⟨y1, y2⟩ := num_a hl h0 hr (lcm3_pos.mp h2)
          exact ih (k + 1) _ l2 z1 z2 y1 y2 he2 ha2
        · obtain ⟨y0, y1, y2⟩ := num_b hl h0 hr (fun h4 => h2 (lcm3_pos.mpr h4))
          rw [y0]
          exact ih (k + 1) _ _ z1 z2 y1 y2 he2 ha2
  refine w_162 ?_
  rw [hat]
  exact lp (n - i) i 0 0 (Nat.add_sub_cancel' hi) (Nat.le_refl _) (Int.le_refl _) (Or.inl ⟨by decide, rfl⟩) rfl rfl
theorem takeQuotes_exit {d : Nat} {v : Mem} {Q : Int → Mem → Prop} {n i c k : Nat} (hs : v 23 5 = n) (ht : TXT 12 v n) (hn : n ≤ 3000) (hat : v 23 6 = i) (hc : v 23 7 = c) (hc2 : c < 3002) (hik : i < k) (hkn : k ≤ n)
    (hq1 : (uB (v 12) n k = 34 ∧ k - i - 1 ≤ 100) → Q 0 (wrow v c 4 i ((k - i - 1 : Nat) : Int) ((k + 1 : Nat) : Int))) (hq2 : ¬ (uB (v 12) n k = 34 ∧ k - i - 1 ≤ 100) → Q 0 (wrow v c 1 i 0 n)) : LL 12 (d + 3) 163 62 [(2, 23), (0, (k : Int)), (3, 0)] [] v Q := by
  have e1 : w32 (w32 ((k : Int) - v 23 6) - 1) = ((k - i - 1 : Nat) : Int) := by
    rw [hat, w32_id (a := (k : Int) - (i : Int)) (by omega) (by omega)]
    exact wNat (by omega) (by omega)
  have e2 : w32 ((k : Int) + 1) = ((k + 1 : Nat) : Int) := wNat (by omega) (by omega)
  refine s_163_62 (d := d + 1) ?_
  rw [f167 hs ht, e1, e2, m166_5 hc hc2, m166 hc hc2, m166 hc hc2, hs, hat]
  clear e1 e2
  refine ⟨fun h => ⟨fun h2 => hq2 (fun h3 => ?_), fun h2 => hq1 ⟨h, ?_⟩⟩, fun h => hq2 (fun h3 => h h3.1)⟩
  · have := h3.2
    omega
  · omega
theorem takeQuotes_rr {d : Nat} {v : Mem} {Q : Int → Mem → Prop} {n i c : Nat} (hs : v 23 5 = n) (ht : TXT 12 v n) (hn : n ≤ 3000) (hat : v 23 6 = i) (hc : v 23 7 = c) (hc2 : c < 3002) (hi : i < n)
    (hq1 : (uB (v 12) n (en isQt (uB (v 12) n) n (i + 1)) = 34 ∧ en isQt (uB (v 12) n) n (i + 1) - i - 1 ≤ 100) → Q 0 (wrow v c 4 i ((en isQt (uB (v 12) n) n (i + 1) - i - 1 : Nat) : Int) ((en isQt (uB (v 12) n) n (i + 1) + 1 : Nat) : Int))) (hq2 : ¬ (uB (v 12) n (en isQt (uB (v 12) n) n (i + 1)) = 34 ∧ en isQt (uB (v 12) n) n (i + 1) - i - 1 ≤ 100) → Q 0 (wrow v c 1 i 0 n)) : RR 12 (d + 3) 163 [(2, 23)] v Q := by
  have hn5 : n ≤ 5000 := Nat.le_trans hn (by decide)
  have lp : ∀ (f k : Nat), k + f = n → i + 1 ≤ k → en isQt (uB (v 12) n) n (i + 1) = en isQt (uB (v 12) n) n k → LL 12 (d + 3) 163 14 [(2, 23), (0, (k : Int)), (0, (k : Int))] [] v Q := by
    intro f
    induction f with
    | zero =>
      intro k hk hik he
      obtain ⟨z1, z2, z3⟩ := lpZ hk
      rw [en_end z1] at he
      rw [he] at hq1 hq2
      refine s_163_14 (d := d + 2) ?_
      rw [hs]
      exact ⟨fun h => absurd h z3, fun _ => takeQuotes_exit hs ht hn hat hc hc2 hik z2 hq1 hq2⟩
    | succ f ih =>
      intro k hk hik he
      obtain ⟨z1, z2, z3, z4, z5⟩ := lpS hk hik
      have e2 := wS z3 hn5
      have stop : isQt (uB (v 12) n k) = false → LL 12 (d + 3) 163 62 [(2, 23), (0, (k : Int)), (3, 0)] [] v Q := fun hd => by
        rw [en_stop hd] at he
        rw [he] at hq1 hq2
        exact takeQuotes_exit hs ht hn hat hc hc2 hik z4 hq1 hq2
      refine s_163_14 (d := d + 2) ?_
      rw [f167 hs ht, hs, e2]
      refine ⟨fun _ => ⟨fun h => stop (isQt_f.mpr (fun h9 => absurd h (Int.not_lt.mpr h9.1))), fun h => ⟨fun h2 => stop (isQt_f.mpr (fun h9 => absurd h2 (Int.not_lt.mpr h9.2.1))), fun h2 => ⟨fun h3 => stop (isQt_f.mpr (fun h9 => h9.2.2 h3)), fun h3 => ?_⟩⟩⟩, fun h => absurd z5 h⟩
      have hd : isQt (uB (v 12) n k) = true := isQt_r.mpr ⟨Int.not_lt.mp h, Int.not_lt.mp h2, h3⟩
      exact ih (k + 1) z1 z2 (by rw [he, en_go hd z3])
  refine w_163 ?_
  have e2 : w32 ((v 23 6) + 1) = ((i + 1 : Nat) : Int) := by rw [hat]; exact wS hi hn5
  rw [e2]
  exact lp (n - (i + 1)) (i + 1) (Nat.add_sub_cancel' hi) (Nat.le_refl _) rfl
