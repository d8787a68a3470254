/-! The class's words. -/
theorem f167 {v : Mem} {n k : Nat} (hs : v 23 5 = n) (ht : TXT 12 v n) : f_167 (k : Int) v = uB (v 12) n k := by
  unfold f_167 uB
  rw [hs, if_neg (by omega)]
  have hn := ht.1
  by_cases h : k < n
  · rw [if_pos (by omega), if_pos (by omega), if_pos h, Int.toNat_natCast]
    have := ht.2 k h
    exact iand_255 (by omega) (by omega)
  · rw [if_neg (by omega), if_neg h]
theorem f168 {c : Int} {v : Mem} : f_168 c v = b2i (isLt c) := f184 (v := v)
theorem f169 {c : Int} {v : Mem} : f_169 c v = b2i (isDg c) := f185 (v := v)
theorem isLt_r {c : Int} : isLt c = true ↔ 97 ≤ c ∧ c ≤ 122 := by unfold isLt; exact decide_eq_true_iff
theorem f170 {c : Int} {v : Mem} : f_170 c v = dgt c := by
  unfold f_170 dgt
  rw [f168, f169]
  cases h1 : isLt c with
  | true =>
    have := isLt_r.mp h1
    rw [if_neg (by decide)]
    show w32 (w32 (c - 97) + 1) = c - 96
    rw [w32_id (a := c - 97) (by omega) (by omega), w32_id (by omega) (by omega)]
    omega
  | false =>
    rw [if_pos (by decide)]
    cases h2 : isDg c with
    | true =>
      have := isDg_r.mp h2
      rw [if_neg (by decide)]
      show w32 (w32 (c - 48) + 27) = c - 21
      rw [w32_id (a := c - 48) (by omega) (by omega), w32_id (by omega) (by omega)]
      omega
    | false => rw [if_pos (by decide)]; rfl
theorem dgt_pos {c : Int} : 0 < dgt c ↔ isNm c = true := by
  unfold dgt isNm
  cases h1 : isLt c with
  | true =>
    have := isLt_r.mp h1
    show 0 < c - 96 ↔ true = true
    exact ⟨fun _ => rfl, fun _ => by omega⟩
  | false =>
    cases h2 : isDg c with
    | true =>
      have := isDg_r.mp h2
      show 0 < c - 21 ↔ true = true
      exact ⟨fun _ => rfl, fun _ => by omega⟩
    | false =>
      show (0 : Int) < 0 ↔ false = true
      exact ⟨fun h => absurd h (by decide), fun h => absurd h (by decide)⟩
theorem dgt_r {c : Int} (h : isNm c = true) : 1 ≤ dgt c ∧ dgt c ≤ 36 ∧ (isLt c = true → c = dgt c + 96 ∧ dgt c ≤ 26) ∧ (isLt c = false → c = dgt c + 21 ∧ 27 ≤ dgt c) := by
  unfold dgt isNm at *
  cases h1 : isLt c with
  | true =>
    have := isLt_r.mp h1
    show 1 ≤ c - 96 ∧ c - 96 ≤ 36 ∧ (_ → c = c - 96 + 96 ∧ c - 96 ≤ 26) ∧ (true = false → _)
    exact ⟨by omega, by omega, fun _ => ⟨by omega, by omega⟩, fun e => by cases e⟩
  | false =>
    rw [h1] at h
    have h2 : isDg c = true := h
    have := isDg_r.mp h2
    rw [h2]
    show 1 ≤ c - 21 ∧ c - 21 ≤ 36 ∧ (false = true → _) ∧ (_ → c = c - 21 + 21 ∧ 27 ≤ c - 21)
    exact ⟨by omega, by omega, fun e => (by cases e), fun _ => ⟨by omega, by omega⟩⟩
theorem dgt_inj {c c' : Int} (h : isNm c = true) (h' : isNm c' = true) (e : dgt c = dgt c') : c = c' := by
  obtain ⟨a1, a2, a3, a4⟩ := dgt_r h
  obtain ⟨b1, b2, b3, b4⟩ := dgt_r h'
  cases x : isLt c with
  | true =>
    cases y : isLt c' with
    | true => have := a3 x; have := b3 y; omega
    | false => have := a3 x; have := b4 y; omega
  | false =>
    cases y : isLt c' with
    | true => have := a4 x; have := b3 y; omega
    | false => have := a4 x; have := b4 y; omega
def pklA (acc : Int) (w : List Int) : Int := match w with
  | [] => acc
  | c :: w => pklA (acc * 37 + dgt c) w
theorem pk_seg {u : Nat → Int} : ∀ (m k : Nat) (acc : Int), pkA u acc k m = pklA acc (segU u k m) := by
  intro m
  induction m with
  | zero => intro k acc; rfl
  | succ m ih => intro k acc; exact ih (k + 1) _
theorem pkl_app (w : List Int) (c : Int) : ∀ acc, pklA acc (w ++ [c]) = pklA acc w * 37 + dgt c := by
  induction w with
  | nil => intro acc; rfl
  | cons a w ih => intro acc; exact ih _
theorem pkl_nn (w : List Int) (h : ∀ c ∈ w, isNm c = true) : ∀ acc, 0 ≤ acc → acc ≤ pklA acc w := by
  induction w with
  | nil => intro acc _; exact Int.le_refl _
  | cons a w ih =>
    intro acc h0
    have h1 := (dgt_r (h a List.mem_cons_self)).1
    have := ih (fun c hc => h c (List.mem_cons_of_mem _ hc)) (acc * 37 + dgt a) (by omega)
    show acc ≤ pklA (acc * 37 + dgt a) w
    omega
theorem pkl_inj : ∀ (m : Nat) (w w' : List Int), w.length ≤ m → (∀ c ∈ w, isNm c = true) → (∀ c ∈ w', isNm c = true) → pklA 0 w = pklA 0 w' → w = w' := by
  intro m
  induction m with
  | zero =>
    intro w w' hl hw hw' e
    have : w = [] := List.length_eq_zero_iff.mp (by omega)
    subst this
    rcases List.eq_nil_or_concat w' with h | ⟨x, c, h⟩
    · exact h.symm
    · subst h
      rw [List.concat_eq_append] at *
      rw [pkl_app] at e
      have h1 := (dgt_r (hw' c (by simp))).1
      have h2 := pkl_nn x (fun c hc => hw' c (by simp [hc])) 0 (by omega)
      have e : (0 : Int) = pklA 0 x * 37 + dgt c := e
      omega
  | succ m ih =>
    intro w w' hl hw hw' e
    rcases List.eq_nil_or_concat w with h | ⟨x, c, h⟩
    · exact ih w w' (by rw [h]; simp) hw hw' e
    · subst h
      rw [List.concat_eq_append] at *
      rcases List.eq_nil_or_concat w' with h' | ⟨x', c', h'⟩
      · subst h'
        rw [pkl_app] at e
        have h1 := (dgt_r (hw c (by simp))).1
        have h2 := pkl_nn x (fun c hc => hw c (by simp [hc])) 0 (by omega)
        have e : pklA 0 x * 37 + dgt c = 0 := e
        omega
      · subst h'
        rw [List.concat_eq_append] at *
        rw [pkl_app, pkl_app] at e
        have h1 := dgt_r (hw c (by simp))
        have h2 := dgt_r (hw' c' (by simp))
        have e1 : dgt c = dgt c' := by omega
        have e2 : pklA 0 x = pklA 0 x' := by omega
        have e3 := ih x x' (by simp at hl; omega) (fun c hc => hw c (by simp [hc])) (fun c hc => hw' c (by simp [hc])) e2
        rw [e3, dgt_inj (hw c (by simp)) (hw' c' (by simp)) e1]
theorem pkl_lt (w : List Int) (h : ∀ c ∈ w, isNm c = true) : ∀ acc, 0 ≤ acc → pklA acc w < (acc + 1) * 37 ^ w.length := by
  induction w with
  | nil => intro acc _; show acc < (acc + 1) * 37 ^ 0; omega
  | cons a w ih =>
    intro acc h0
    have h1 := dgt_r (h a List.mem_cons_self)
    have h2 := ih (fun c hc => h c (List.mem_cons_of_mem _ hc)) (acc * 37 + dgt a) (by omega)
    have h3 : (acc * 37 + dgt a + 1) * 37 ^ w.length ≤ ((acc + 1) * 37) * 37 ^ w.length := Int.mul_le_mul_of_nonneg_right (by omega) (Int.pow_nonneg (by decide))
    have h4 : (acc + 1) * 37 ^ (a :: w).length = ((acc + 1) * 37) * 37 ^ w.length := by
      rw [List.length_cons, Int.pow_succ, Int.mul_comm (37 ^ w.length) 37, Int.mul_assoc]
    rw [h4]
    show pklA (acc * 37 + dgt a) w < _
    omega
theorem kwL_nm : ∀ w ∈ kwL, ∀ c ∈ w, isNm c = true := by decide
/-- the keywords' packed rows -/
def KWI (v : Mem) : Prop := ∀ i w, kwL[i]? = some w → v 27 i = pklA 0 w
theorem lcm3_0 {a b : Int} : lcm3 a b = 0 ↔ a = b := by
  unfold lcm3
  by_cases h1 : a < b
  · rw [if_pos h1]; omega
  · by_cases h2 : b < a
    · rw [if_neg h1, if_pos h2]; omega
    · rw [if_neg h1, if_neg h2]; omega
theorem keywordOr_rr {d : Nat} {v : Mem} {Q : Int → Mem → Prop} {w : List Int} (hk : KWI v) (hw : ∀ c ∈ w, isNm c = true) (hq : Q (kwK w) v) : RR 12 d 161 [(2, 23), (1, pklA 0 w)] v Q := by
  have lp : ∀ (m i : Nat), i + m = 16 → kwK w = kwF w (10 + i) (kwL.drop i) → LL 12 d 161 2 [(2, 23), (1, pklA 0 w), (3, 0), (0, (i : Int))] [] v Q := by
    intro m
    induction m with
    | zero =>
      intro i hi e
      have hi : i = 16 := by omega
      subst hi
      have e : kwK w = 2 := e
      rw [e] at hq
      exact w_161_2 ⟨fun c => absurd c (by decide), fun _ => hq⟩
    | succ m ih =>
      intro i hi e
      have hlt : i < kwL.length := by show i < 16; omega
      have e0 : kwL.drop i = kwL[i] :: kwL.drop (i + 1) := List.drop_eq_getElem_cons hlt
      have e1 := hk i kwL[i] (List.getElem?_eq_getElem hlt)
      have e2 : w32 ((i : Int) + 1) = ((i + 1 : Nat) : Int) := wNat (by omega) (by omega)
      have e3 : w32 (10 + (i : Int)) = 10 + (i : Int) := w32_id (by omega) (by omega)
      rw [e0] at e
      have e : kwK w = if w = kwL[i] then 10 + (i : Int) else kwF w (10 + (i : Int) + 1) (kwL.drop (i + 1)) := e
      refine w_161_2 ?_
      rw [e2, e3, Int.toNat_natCast, e1]
      refine ⟨fun _ => ⟨⟨by omega, by omega⟩, fun c => ?_, fun c => ?_⟩, fun c => absurd (by omega) c⟩
      · have := pkl_inj _ w kwL[i] (Nat.le_refl _) hw (kwL_nm _ (List.getElem_mem hlt)) (lcm3_0.mp c).symm
        rw [if_pos this] at e
        rw [e] at hq
        exact hq
      · rw [if_neg (fun h => c (lcm3_0.mpr (by rw [← h])))] at e
        refine ih (i + 1) (by omega) ?_
        rw [e]
        congr 1
  exact w_161 (lp 16 0 rfl rfl)
theorem segU_nm {u : Nat → Int} {p : Int → Bool} : ∀ (m k : Nat), (∀ j, k ≤ j → j < k + m → p (u j) = true) → ∀ c ∈ segU u k m, p c = true := by
  intro m
  induction m with
  | zero => intro k _ c hc; cases hc
  | succ m ih =>
    intro k h c hc
    rcases List.mem_cons.mp hc with e | hc
    · rw [e]; exact h k (by omega) (by omega)
    · exact ih (k + 1) (fun j h1 h2 => h j (by omega) (by omega)) c hc
/-- one more row of words -/
def wrow (v : Mem) (c : Nat) (k a val at' : Int) : Mem := up (up (up (up (up v 24 c k) 25 c a) 26 c val) 23 7 ((c + 1 : Nat) : Int)) 23 6 at'
theorem m166 {v : Mem} {c : Nat} {k a val : Int} (hc : v 23 7 = c) (h : c < 3002) : m_166 k a val v = up (up (up (up v 24 c k) 25 c a) 26 c val) 23 7 ((c + 1 : Nat) : Int) := by
  unfold m_166
  rw [hc, if_neg (by omega), if_pos (by omega), Int.toNat_natCast, wNat (k := c + 1) (by omega) (by omega)]
theorem m166_5 {v : Mem} {c : Nat} {k a val : Int} (hc : v 23 7 = c) (h : c < 3002) : m_166 k a val v 23 5 = v 23 5 := by
  rw [m166 hc h]
  rfl
theorem m166_6 {v : Mem} {c : Nat} {k a val : Int} (hc : v 23 7 = c) (h : c < 3002) : m_166 k a val v 23 6 = v 23 6 := by
  rw [m166 hc h]
  rfl
theorem w64_37 (x y : Int) : w64 (w64 (w64 x * 37) + y) = w64 (x * 37 + y) := by
  unfold w64
  omega
theorem wS {k m : Nat} (h : k < m) (hm : m ≤ 5000) : w32 ((k : Int) + 1) = ((k + 1 : Nat) : Int) := wNat (by omega) (by omega)
theorem lpS {k f n i : Nat} (hk : k + (f + 1) = n) (hik : i ≤ k) : k + 1 + f = n ∧ i ≤ k + 1 ∧ k < n ∧ k ≤ n ∧ ((k : Int) < (n : Int)) := by omega
theorem lpZ {k n : Nat} (hk : k + 0 = n) : n ≤ k ∧ k ≤ n ∧ ¬ ((k : Int) < (n : Int)) := by omega
theorem pow37 {m : Nat} (h : m ≤ 12) : (37 : Int) ^ m ≤ 6582952005840035281 := by
  have h1 : (37 : Nat) ^ m ≤ 37 ^ 12 := Nat.pow_le_pow_right (by decide) h
  have h2 : ((37 ^ m : Nat) : Int) = (37 : Int) ^ m := by rw [Int.natCast_pow]; rfl
  have h3 : (37 : Nat) ^ 12 = 6582952005840035281 := by decide
  rw [← h2]
  omega
theorem seg_snoc {u : Nat → Int} : ∀ (m a : Nat), segU u a (m + 1) = segU u a m ++ [u (a + m)] := by
  intro m
  induction m with
  | zero => intro a; rfl
  | succ m ih =>
    intro a
    show u a :: segU u (a + 1) (m + 1) = u a :: (segU u (a + 1) m ++ _)
    rw [ih (a + 1), show a + 1 + m = a + (m + 1) by omega]
theorem pk_snoc {u : Nat → Int} {i k : Nat} (h : i ≤ k) : w64 (w64 (w64 (pkA u 0 i (k - i)) * 37) + dgt (u k)) = w64 (pkA u 0 i (k + 1 - i)) := by
  rw [w64_37, pk_seg, pk_seg, Nat.succ_sub h, seg_snoc, pkl_app, Nat.add_sub_cancel' h]
theorem pk_fit {u : Nat → Int} {i k : Nat} (hnm : ∀ c ∈ segU u i (k - i), isNm c = true) (h : k - i ≤ 12) : w64 (pkA u 0 i (k - i)) = pklA 0 (segU u i (k - i)) := by
  have h1 := pkl_lt _ hnm 0 (Int.le_refl _)
  rw [segU_len] at h1
  have h2 := pow37 h
  have h0 := pkl_nn _ hnm 0 (Int.le_refl _)
  rw [pk_seg, w64_id (by omega) (by omega)]
