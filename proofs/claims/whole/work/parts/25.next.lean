/-! The reference's next word. -/
def S38 (v v' : Mem) : Prop := (∀ c, c ≠ 38 → v' c = v c) ∧ ∀ k, (k < 8 ∨ 12 < k) → v' 38 k = v 38 k
theorem S38.refl (v : Mem) : S38 v v := ⟨fun _ _ => rfl, fun _ _ => rfl⟩
theorem S38.trans {v v' v'' : Mem} (h : S38 v v') (h' : S38 v' v'') : S38 v v'' := ⟨fun c hc => (h'.1 c hc).trans (h.1 c hc), fun k hk => (h'.2 k hk).trans (h.2 k hk)⟩
theorem S38.up {v v' : Mem} {k : Nat} {a : Int} (h : S38 v v') (hk : 8 ≤ k ∧ k ≤ 12) : S38 v (up v' 38 k a) := ⟨fun c hc => by rw [up_ne hc]; exact h.1 c hc, fun j hj => by rw [up_nk (by omega)]; exact h.2 j hj⟩
theorem CW_mk {v v' : Mem} {n p to : Nat} {k val : Int} (hs : v 38 3 = n) (ht : TXT 40 v n) (hp : p ≤ n) (hw : wordAt (uB (v 40) n) n p = (k, to, val)) (h0 : S38 v v') (h1 : v' 38 10 = p) (h2 : v' 38 9 = rk k) (h3 : v' 38 11 = to) (h4 : v' 38 8 = to) (h5 : k = 3 → v' 38 12 = val) : CW v' n p := by
  have e : v' 40 = v 40 := h0.1 40 (by decide)
  unfold CW TXT
  rw [e, hw, h0.2 3 (by omega)]
  exact ⟨hs, ht, hp, h1, h2, h3, h4, h5⟩
def sL5 : List Int := sB.getD 5 []
theorem sL5_len : sL5.length = 15 := by decide +kernel
theorem sL5_mem {c : Int} : c ∈ sL5 ↔ ∃ j, j < 15 ∧ sL5.getD j 0 = c := by
  constructor
  · intro h
    obtain ⟨j, hj, e⟩ := List.mem_iff_getElem.mp h
    refine ⟨j, by rw [← sL5_len]; exact hj, ?_⟩
    rw [← e]
    simp [List.getD, List.getElem?_eq_getElem hj]
  · rintro ⟨j, hj, rfl⟩
    have hj : j < sL5.length := by rw [sL5_len]; exact hj
    have e : sL5.getD j 0 = sL5[j] := by simp [List.getD, List.getElem?_eq_getElem hj]
    rw [e]
    exact List.getElem_mem hj
theorem sL5_r (j : Nat) : 0 ≤ sL5.getD j 0 ∧ sL5.getD j 0 < 128 := chr_r 5 j
theorem w8_eq {c x : Int} (h0 : 0 ≤ c) (h1 : c < 256) (hx : 0 ≤ x ∧ x < 128) : x = w8 c ↔ x = c := by unfold w8; omega
theorem idx5 {t : Int} {d : Nat} {c : Int} {v : Mem} {Q : Int → Mem → Prop} (h0 : 0 ≤ c) (h1 : c < 256) (hq1 : ∀ x, c ∈ sL5 → 0 ≤ x → Q x v) (hq2 : c ∉ sL5 → Q (-1) v) : RR t (d + 5) 264 [(2, (-7)), (0, c)] v Q := by
  have lp : ∀ (m l : Nat), l + m = 15 → (∀ j, j < l → ¬ sL5.getD j 0 = c) → LL t (d + 1) 272 7 [(2, (-51)), (3, 0), (3, 0), (0, 15), (0, w8 c), (0, (l : Int))] [] v Q := by
    intro m
    induction m with
    | zero =>
      intro l hl hj
      refine w_272_s49_7 ⟨fun c2 => absurd c2 (by omega), fun _ => hq2 fun hm => ?_⟩
      obtain ⟨j, hj1, hj2⟩ := sL5_mem.mp hm
      exact hj j (by omega) hj2
    | succ m ih =>
      intro l hl hj
      have e2 : w32 ((l : Int) + 1) = ((l + 1 : Nat) : Int) := wNat (by omega) (by omega)
      refine w_272_s49_7 ?_
      rw [e2, Int.toNat_natCast]
      refine ⟨fun _ => ⟨⟨by omega, by omega⟩, fun c2 => ?_, fun c2 => ?_⟩, fun c2 => absurd (by omega) c2⟩
      · have c3 : sL5.getD l 0 = c := (w8_eq h0 h1 (sL5_r l)).mp c2
        exact hq1 l (sL5_mem.mpr ⟨l, by omega, c3⟩) (by omega)
      · refine ih (l + 1) (by omega) fun j hj2 => ?_
        by_cases hjl : j = l
        · rw [hjl]
          exact fun e => c2 ((w8_eq h0 h1 (sL5_r l)).mpr e)
        · exact hj j (by omega)
  refine w_264_s5 (d := d + 4) (RR.imp (s_265_s5 (d := d + 2) (RR.imp (s_271_s49 (d := d + 2) ⟨fun c2 => absurd c2 (by omega), fun _ => ⟨fun c2 => absurd c2 (by omega), fun _ => ⟨fun _ => ?_, fun c2 => absurd (show f_275 0 0 v < f_276 15 15 v by
    show (if (0 : Int) < 0 then (0 : Int) else 0) < (if (15 : Int) < 15 then (15 : Int) else 15)
    decide) c2⟩⟩⟩) (fun _ _ h => h))) (fun _ _ h => h))
  refine RR.deep (d := d + 1) ?_ (by omega)
  exact w_272_s49 (lp 15 0 rfl (fun j hj => by omega))
theorem isSg_iff {c : Int} : isSg c = true ↔ c ∈ sL5 ∨ c = 61 ∨ c = 33 ∨ c = 60 := by
  unfold isSg
  rw [List.contains_iff_mem]
  have e : sL5 = [40, 41, 123, 125, 91, 93, 44, 58, 59, 43, 45, 42, 47, 37, 38] := by decide +kernel
  rw [e]
  simp only [List.mem_cons, List.not_mem_nil, or_false]
  constructor
  · rintro (h | h | h | h | h | h | h | h | h | h | h | h | h | h | h | h | h | h) <;> simp [h]
  · rintro ((h | h | h | h | h | h | h | h | h | h | h | h | h | h | h) | h | h | h) <;> simp [h]
theorem sL5_26 : ∀ c ∈ sL5, (26 : Int) ≤ c ∧ ¬ c = 61 ∧ ¬ c = 33 ∧ ¬ c = 60 := by decide +kernel
theorem next_rr {t : Int} {d : Nat} {Q : Int → Mem → Prop} {n : Nat} : ∀ (m a : Nat) (v : Mem), a + m = n → v 38 3 = n → TXT 40 v n → v 38 8 = a → (∀ v', CW v' n (en isBl (uB (v 40) n) n a) → S38 v v' → Q 0 v') → RR t (d + 8) 189 [(2, 38)] v Q := by
  intro m
  induction m with
  | zero =>
    intro a v hm hs ht ha hq
    have hn := ht.1
    have hu := uB_out (b := v 40) (n := n) (k := a) (by omega)
    have hM3 : (up (up (up v 38 10 (v 38 8)) 38 9 1) 38 11 (v 38 8)) 38 3 = v 38 3 := rfl
    have hM40 : (up (up (up v 38 10 (v 38 8)) 38 9 1) 38 11 (v 38 8)) 40 = v 40 := rfl
    have hM10 : (up (up (up v 38 10 (v 38 8)) 38 9 1) 38 11 (v 38 8)) 38 10 = v 38 8 := rfl
    have hM11 : (up (up (up v 38 10 (v 38 8)) 38 9 1) 38 11 (v 38 8)) 38 11 = v 38 8 := rfl
    have hMS : S38 v (up (up (up v 38 10 (v 38 8)) 38 9 1) 38 11 (v 38 8)) := (((S38.refl v).up (by omega)).up (by omega)).up (by omega)
    refine s_189 (d := d + 7) ?_
    generalize up (up (up v 38 10 (v 38 8)) 38 9 1) 38 11 (v 38 8) = M at *
    rw [ha] at *
    have eM : f_186 (a : Int) M = -1 := by rw [f186 (hM3.trans hs) (by unfold TXT; rw [hM40]; exact ht), hM40, hu]
    rw [f186 hs ht, hu, eM]
    refine ⟨gd hs hn, fun c => absurd c (by decide), fun _ => ⟨gd hs hn, fun c => absurd c (by decide), fun _ => ⟨by rw [hM3]; exact gd hs hn, fun _ => ?_, fun c => absurd (by decide) c⟩⟩⟩
    rw [en_end (by omega)] at hq
    refine hq _ (CW_mk hs ht (by omega) (k := 0) (to := a) (val := 0) (by unfold wordAt; rw [hu, if_pos (by decide)]) ((hMS.up (by omega)).up (by omega)) ?_ rfl ?_ rfl (fun e => absurd e (by decide))) ((hMS.up (by omega)).up (by omega))
    · exact hM10
    · exact hM11
  | succ m ih =>
    intro a v hm hs ht ha hq
    have hn := ht.1
    have hur := uB_r (v 40) n a
    have hM3 : (up (up (up v 38 10 (v 38 8)) 38 9 1) 38 11 (v 38 8)) 38 3 = v 38 3 := rfl
    have hM40 : (up (up (up v 38 10 (v 38 8)) 38 9 1) 38 11 (v 38 8)) 40 = v 40 := rfl
    have hM8 : (up (up (up v 38 10 (v 38 8)) 38 9 1) 38 11 (v 38 8)) 38 8 = v 38 8 := rfl
    have hM9 : (up (up (up v 38 10 (v 38 8)) 38 9 1) 38 11 (v 38 8)) 38 9 = 1 := rfl
    have hM10 : (up (up (up v 38 10 (v 38 8)) 38 9 1) 38 11 (v 38 8)) 38 10 = v 38 8 := rfl
    have hM11 : (up (up (up v 38 10 (v 38 8)) 38 9 1) 38 11 (v 38 8)) 38 11 = v 38 8 := rfl
    have hMS : S38 v (up (up (up v 38 10 (v 38 8)) 38 9 1) 38 11 (v 38 8)) := (((S38.refl v).up (by omega)).up (by omega)).up (by omega)
    have hbl : isBl (uB (v 40) n a) = true → LL t (d + 8) 189 0 [(2, 38), (3, 0)] [] (up v 38 8 (w32 ((v 38 8) + 1))) Q := by
      intro hb
      have e2 : w32 ((v 38 8) + 1) = ((a + 1 : Nat) : Int) := wNat (by rw [ha]; omega) (by omega)
      rw [e2]
      exact ih (a + 1) (up v 38 8 ((a + 1 : Nat) : Int)) (by omega) hs ht rfl (fun v' h1 h2 => hq v' (by rw [en_go hb (by omega)]; exact h1) (((S38.refl v).up (by omega)).trans h2))
    refine s_189 (d := d + 7) ?_
    generalize up (up (up v 38 10 (v 38 8)) 38 9 1) 38 11 (v 38 8) = M at *
    rw [ha] at *
    have tM : TXT 40 M n := by unfold TXT; rw [hM40]; exact ht
    have sM : M 38 3 = n := hM3.trans hs
    have eM : f_186 (a : Int) M = uB (v 40) n a := by rw [f186 sM tM, hM40]
    rw [f186 hs ht, eM, f184, f185]
    refine ⟨gd hs hn, fun c => hbl (by rw [c]; decide), fun c10 => ⟨gd hs hn, fun c => hbl (by rw [c]; decide), fun c32 => ⟨by rw [hM3]; exact gd hs hn, fun c => ?_, fun c0 => ⟨fun cl => ⟨fun cd => ⟨fun cq => ?_, fun cq => ?_⟩, fun cd => ?_⟩, fun cl => ?_⟩⟩⟩⟩
    · exact absurd (uB_in (b := v 40) (n := n) (k := a) (by omega)) (by omega)
    · -- quotes
      have hno : isBl (uB (v 40) n a) = false := by unfold isBl; exact decide_eq_false (by omega)
      rw [en_stop hno] at hq
      have hlt := b2i_0.mp cl
      have hdg := b2i_0.mp cd
      refine nextQuote_rr (d := d + 5) (n := n) (i := a) sM tM hM8 (by omega) (fun h => ?_) (fun h => ?_)
      · rw [hM40] at h ⊢
        refine hq _ (CW_mk hs ht (by omega) (by unfold wordAt; rw [if_neg c0, hlt, if_neg (by decide), hdg, if_neg (by decide), if_pos cq, if_pos h]) (((hMS.up (by omega)).up (by omega)).up (by omega)) hM10 rfl rfl rfl (fun e => absurd e (by decide))) (((hMS.up (by omega)).up (by omega)).up (by omega))
      · rw [hM40] at h
        refine hq _ (CW_mk hs ht (by omega) (k := 1) (to := a) (val := 0) (by unfold wordAt; rw [if_neg c0, hlt, if_neg (by decide), hdg, if_neg (by decide), if_pos cq, if_neg h]) (hMS.up (by omega)) hM10 hM9 hM11 hM11 (fun e => absurd e (by decide))) (hMS.up (by omega))
    · -- signs
      have hno : isBl (uB (v 40) n a) = false := by unfold isBl; exact decide_eq_false (by omega)
      rw [en_stop hno] at hq
      have hlt := b2i_0.mp cl
      have hdg := b2i_0.mp cd
      have e1 : w32 (M 38 8 + 1) = ((a + 1 : Nat) : Int) := wNat (by rw [hM8]; omega) (by omega)
      have e2 : w32 (M 38 8 + 2) = ((a + 2 : Nat) : Int) := wNat (by rw [hM8]; omega) (by omega)
      have two : (uB (v 40) n a = 61 ∨ uB (v 40) n a = 33 ∨ uB (v 40) n a = 60) → LL t (d + 8) 189 168 [(2, 38), (3, 0)] [] M Q := by
        intro h3
        have hsg : isSg (uB (v 40) n a) = true := isSg_iff.mpr (Or.inr h3)
        have eN : f_186 ((a + 1 : Nat) : Int) (up M 38 9 6) = uB (v 40) n (a + 1) := by
          have := f186 (v := up M 38 9 6) (n := n) (k := a + 1) sM tM
          rw [this]
          show uB (M 40) n (a + 1) = _
          rw [hM40]
        refine s_189_168 (d := d + 7) ?_
        rw [e1, e2, eN]
        refine ⟨gd (v := up M 38 9 6) (n := n) sM hn, fun c => ?_, fun c => ?_⟩
        · refine hq _ (CW_mk hs ht (by omega) (k := 128 + uB (v 40) n a) (to := a + 2) (val := 0) (by unfold wordAt; rw [if_neg c0, hlt, if_neg (by decide), hdg, if_neg (by decide), if_neg cq, if_pos hsg, if_pos ⟨h3, c⟩]) (((hMS.up (by omega)).up (by omega)).up (by omega)) hM10 ?_ rfl rfl (fun e => by omega)) (((hMS.up (by omega)).up (by omega)).up (by omega))
          show (6 : Int) = rk _
          unfold rk
          rw [if_neg (by omega), if_neg (by omega)]
        · refine hq _ (CW_mk hs ht (by omega) (k := uB (v 40) n a) (to := a + 1) (val := 0) (by unfold wordAt; rw [if_neg c0, hlt, if_neg (by decide), hdg, if_neg (by decide), if_neg cq, if_pos hsg, if_neg (fun h => c h.2)]) (((hMS.up (by omega)).up (by omega)).up (by omega)) hM10 ?_ rfl rfl (fun e => by omega)) (((hMS.up (by omega)).up (by omega)).up (by omega))
          show (6 : Int) = rk _
          unfold rk
          rw [if_neg (by omega), if_neg (by omega)]
      refine idx5 (d := d + 2) (by omega) (by omega) (fun x hm hx => ⟨fun c => absurd c (by omega), fun _ => ?_⟩) (fun hm => ⟨fun _ => ⟨fun c => two (Or.inr (Or.inl c)), fun n33 => ⟨fun c => two (Or.inl c), fun n61 => ⟨fun c => two (Or.inr (Or.inr c)), fun n60 => ?_⟩⟩⟩, fun c => absurd (by decide) c⟩)
      · have h26 := sL5_26 _ hm
        rw [e1]
        refine hq _ (CW_mk hs ht (by omega) (k := uB (v 40) n a) (to := a + 1) (val := 0) (by unfold wordAt; rw [if_neg c0, hlt, if_neg (by decide), hdg, if_neg (by decide), if_neg cq, if_pos (isSg_iff.mpr (Or.inl hm)), if_neg (fun h => by omega)]) (((hMS.up (by omega)).up (by omega)).up (by omega)) hM10 ?_ rfl rfl (fun e => by omega)) (((hMS.up (by omega)).up (by omega)).up (by omega))
        show (6 : Int) = rk _
        unfold rk
        rw [if_neg (by omega), if_neg (by omega)]
      · have hsg : isSg (uB (v 40) n a) = false := by
          cases hz : isSg (uB (v 40) n a) with
          | false => rfl
          | true => rcases isSg_iff.mp hz with h | h | h | h <;> contradiction
        refine hq _ (CW_mk hs ht (by omega) (k := 1) (to := a) (val := 0) (by unfold wordAt; rw [if_neg c0, hlt, if_neg (by decide), hdg, if_neg (by decide), if_neg cq, hsg, if_neg (by decide)]) (hMS.up (by omega)) hM10 hM9 hM11 hM11 (fun e => absurd e (by decide))) (hMS.up (by omega))
    · -- numbers
      have hno : isBl (uB (v 40) n a) = false := by unfold isBl; exact decide_eq_false (by omega)
      rw [en_stop hno] at hq
      have hlt := b2i_0.mp cl
      have hdg := b2i_ne.mp cd
      refine nextNumber_rr (d := d + 5) (n := n) (i := a) sM tM hM8 (by omega) (fun h => ?_) (fun h => ?_)
      · rw [hM40] at h ⊢
        refine hq _ (CW_mk hs ht (by omega) (k := 3) (to := en isDg (uB (v 40) n) n a) (val := numA (uB (v 40) n) 0 a (en isDg (uB (v 40) n) n a - a)) (by unfold wordAt; rw [if_neg c0, hlt, if_neg (by decide), if_pos hdg, if_pos h]) ((((hMS.up (by omega)).up (by omega)).up (by omega)).up (by omega)) hM10 rfl rfl rfl (fun _ => rfl)) ((((hMS.up (by omega)).up (by omega)).up (by omega)).up (by omega))
      · rw [hM40] at h
        refine hq _ (CW_mk hs ht (by omega) (k := 1) (to := a) (val := 0) (by unfold wordAt; rw [if_neg c0, hlt, if_neg (by decide), if_pos hdg, if_neg h]) (hMS.up (by omega)) hM10 hM9 hM11 hM11 (fun e => absurd e (by decide))) (hMS.up (by omega))
    · -- names
      have hno : isBl (uB (v 40) n a) = false := by unfold isBl; exact decide_eq_false (by omega)
      rw [en_stop hno] at hq
      have hlt := b2i_ne.mp cl
      refine nextName_rr (d := d + 1) (n := n) (i := a) sM tM hM8 (by rw [hM40]; exact hlt) (fun h => ?_) (fun h => ?_)
      · rw [hM40] at h ⊢
        refine hq _ (CW_mk hs ht (by omega) (by unfold wordAt; rw [if_neg c0, if_pos hlt, if_pos h]) (((hMS.up (by omega)).up (by omega)).up (by omega)) hM10 rfl rfl rfl (fun e => ?_)) (((hMS.up (by omega)).up (by omega)).up (by omega))
        rcases kwK_or (segU (uB (v 40) n) a (en isNm (uB (v 40) n) n a - a)) with h9 | h9
        · rw [h9.1] at e; exact absurd e (by decide)
        · omega
      · rw [hM40] at h
        refine hq _ (CW_mk hs ht (by omega) (k := 1) (to := a) (val := 0) (by unfold wordAt; rw [if_neg c0, if_pos hlt, if_neg h]) (hMS.up (by omega)) hM10 hM9 hM11 hM11 (fun e => absurd e (by decide))) (hMS.up (by omega))
