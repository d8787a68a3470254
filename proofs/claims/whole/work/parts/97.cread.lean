/-! The class: check and read, which set the text of Words. -/
theorem fstT_nn {u : Nat → Int} {n : Nat} : ∀ (N : Nat) (e : Jvm.Term), SizeOf.sizeOf e < N → 0 ≤ fstT u n e := by
  intro N
  induction N with
  | zero => intro e he; exact absurd he (Nat.not_lt_zero _)
  | succ N ih =>
    intro e he
    unfold fstT
    split
    · omega
    · omega
    · omega
    · exact ih _ (by simp at he; omega)
    · exact ih _ (by simp at he; omega)
    · exact ih _ (by simp at he; omega)
    · omega
    · omega
theorem wt_nn {u : Nat → Int} {n : Nat} {a b : Int} {e : Jvm.Term} {p : Int} (h : p ∈ wt a b (fstT u n e)) : 0 ≤ p := by
  unfold wt at h
  split at h
  · cases h
  · rcases List.mem_cons.mp h with e1 | e1
    · rw [e1]; exact fstT_nn _ e (Nat.lt_succ_self _)
    · cases e1
theorem tfE_nn {u : Nat → Int} {n : Nat} {G : Fn} {L : Sc} {p : Int} : ∀ (N : Nat) (e : Jvm.Term), SizeOf.sizeOf e < N → ∀ ds, p ∈ tfE u n G L ds e → 0 ≤ p := by
  intro N
  induction N with
  | zero => intro e he; exact absurd he (Nat.not_lt_zero _)
  | succ N ih =>
    intro e he ds h
    unfold tfE at h
    split at h
    · exact ih _ (by simp at he; omega) _ h
    · rcases List.mem_append.mp h with h | h
      · exact ih _ (by simp at he; omega) _ h
      · exact wt_nn h
    · split at h
      · rcases List.mem_append.mp h with h | h
        · exact ih _ (by simp at he; omega) _ h
        · rcases List.mem_append.mp h with h | h
          · exact ih _ (by simp at he; omega) _ h
          · exact wt_nn h
      · rcases List.mem_append.mp h with h | h
        · exact ih _ (by simp at he; omega) _ h
        · rcases List.mem_append.mp h with h | h
          · exact wt_nn h
          · rcases List.mem_append.mp h with h | h
            · exact ih _ (by simp at he; omega) _ h
            · exact wt_nn h
    · rcases List.mem_append.mp h with h | h
      · exact ih _ (by simp at he; omega) _ h
      · rcases List.mem_append.mp h with h | h
        · exact wt_nn h
        · rcases List.mem_append.mp h with h | h
          · exact ih _ (by simp at he; omega) _ h
          · exact wt_nn h
    · rcases List.mem_append.mp h with h | h
      · exact ih _ (by simp at he; omega) _ h
      · rcases List.mem_append.mp h with h | h
        · exact wt_nn h
        · rcases List.mem_append.mp h with h | h
          · exact ih _ (by simp at he; omega) _ h
          · rcases List.mem_append.mp h with h | h
            · exact wt_nn h
            · rcases List.mem_append.mp h with h | h
              · exact ih _ (by simp at he; omega) _ h
              · exact wt_nn h
    · rcases List.mem_append.mp h with h | h
      · exact ih _ (by simp at he; omega) _ h
      · exact wt_nn h
    · rcases List.mem_append.mp h with h | h
      · exact ih _ (by simp at he; omega) _ h
      · rcases List.mem_append.mp h with h | h
        · exact wt_nn h
        · rcases List.mem_append.mp h with h | h
          · exact ih _ (by simp at he; omega) _ h
          · exact wt_nn h
    · exact ih _ (by simp at he; omega) _ h
    · rcases List.mem_append.mp h with h | h
      · exact ih _ (by simp at he; omega) _ h
      · rcases List.mem_append.mp h with h | h
        · split at h
          · cases h
          · exact wt_nn h
        · exact ih _ (by simp at he; omega) _ h
    · cases h
theorem tfB_nn {u : Nat → Int} {n : Nat} {G : Fn} {rt : Int} {p : Int} : ∀ (N : Nat) (b : Jvm.Term), SizeOf.sizeOf b < N → ∀ L, p ∈ tfB u n G rt L b → 0 ≤ p := by
  intro N
  induction N with
  | zero => intro e he; exact absurd he (Nat.not_lt_zero _)
  | succ N ih =>
    intro b he L h
    have eE : ∀ e, p ∈ tfE u n G L [] e → 0 ≤ p := fun e h => tfE_nn _ e (Nat.lt_succ_self _) [] h
    unfold tfB at h
    split at h
    · rcases List.mem_append.mp h with h | h
      · exact ih _ (by simp at he; omega) _ h
      · exact ih _ (by simp at he; omega) _ h
    · split at h
      · exact eE _ h
      split at h
      · rcases List.mem_append.mp h with h | h
        · exact eE _ h
        · exact wt_nn h
      split at h
      · rcases List.mem_append.mp h with h | h
        · exact eE _ h
        · exact wt_nn h
      · rcases List.mem_append.mp h with h | h
        · rcases List.mem_append.mp h with h | h
          · exact eE _ h
          · exact wt_nn h
        · rcases List.mem_append.mp h with h | h
          · exact ih _ (by simp at he; omega) _ h
          · exact ih _ (by simp at he; omega) _ h
    · cases h
theorem tfG_nn {u : Nat → Int} {n : Nat} {G : Fn} {p : Int} : ∀ (l : List FnT), p ∈ tfG u n G l → 0 ≤ p := by
  intro l
  induction l with
  | nil => intro h; cases h
  | cons q l ih =>
    intro h
    have h : p ∈ tfB u n G q.2.2.1 (scP u n q.2.1) q.2.2.2 ++ tfG u n G l := h
    rcases List.mem_append.mp h with h | h
    · exact tfB_nn _ _ (Nat.lt_succ_self _) _ h
    · exact ih h
theorem ftF_keep : ∀ (l : List Int) (x : Int), ¬ x = -1 → ftF x l = x := by
  intro l
  induction l with
  | nil => intro x _; rfl
  | cons p l ih =>
    intro x hx
    show ftF (if x = -1 then p else x) l = x
    rw [if_neg hx]
    exact ih x hx
theorem ftF_hd {p : Int} {l : List Int} (h : 0 ≤ p) : ftF (-1) (p :: l) = p := by
  show ftF (if (-1 : Int) = -1 then p else -1) l = p
  rw [if_pos rfl]
  exact ftF_keep l p (by omega)
/-- what check answers, as both sides say it -/
theorem CKr_RD {v' : Mem} {u : Nat → Int} {n : Nat} {r : Except Nat (List FnT)} {x : Int} (hn : n ≤ 3000) (hp : PPr (kd u n) 70000 21 0 0 0 = some r) (hm : PM u n) (h : CKr v' u n r x) : RD u n x (if x = 0 then -1 else f_81 v') ∧ (x = 0 → ∃ l, r = .ok l ∧ GOOD u n l) := by
  match r, hp, h with
  | .error j, hp, h =>
    obtain ⟨h1, h2⟩ := h
    refine ⟨Or.inr (Or.inl ⟨hn, j, hp, h1, ?_⟩), fun e => by omega⟩
    rw [if_neg (by omega)]
    unfold f_81
    rw [h2, if_neg (by omega)]
  | .ok l, hp, h =>
    obtain ⟨h7, -, -, -, -, -, a1, a2, a3⟩ := h
    cases hnf : nfG u n (l.map (fnOf u n)) 0 l with
    | cons p r' =>
      obtain ⟨b, hb⟩ := PPr_srt (G := l.map (fnOf u n)) hm 21 0 0 0 l hp 0
      rw [hnf] at hb a1
      have e := mn_hd hb
      rw [e] at a1
      obtain ⟨c1, c2⟩ := a1 (by omega)
      refine ⟨Or.inr (Or.inr (Or.inl ⟨hn, l, hp, Or.inl ⟨p, r', hnf, c1, ?_⟩⟩)), fun e => by omega⟩
      rw [if_neg (by omega)]
      unfold f_81
      rw [h7, c2, if_pos rfl, if_neg (by omega)]
    | nil =>
      rw [hnf] at a2 a3
      have a2 := a2 rfl
      have a3 := a3 rfl
      by_cases hM : HM (l.map (fnOf u n))
      · obtain ⟨c1, c2, c3, c4⟩ := a3 hM
        cases htf : tfG u n (l.map (fnOf u n)) l with
        | nil =>
          rw [htf] at c4
          have e := c4 rfl
          refine ⟨Or.inr (Or.inr (Or.inr ⟨l, ⟨hn, hp, hnf, hM, htf⟩, e, ?_⟩)), fun _ => ⟨l, rfl, hn, hp, hnf, hM, htf⟩⟩
          rw [if_pos e]
        | cons p r' =>
          have hp0 : 0 ≤ p := tfG_nn l (by rw [htf]; exact List.mem_cons_self)
          rw [htf] at c2 c3
          rw [ftF_hd hp0] at c2 c3
          have e := c3 (by omega)
          refine ⟨Or.inr (Or.inr (Or.inl ⟨hn, l, hp, Or.inr (Or.inr ⟨hnf, hM, p, r', htf, e, ?_⟩)⟩)), fun e => by omega⟩
          rw [if_neg (by omega)]
          unfold f_81
          rw [h7, c1, if_pos rfl, if_pos rfl]
          exact c2
      · obtain ⟨c1, c2⟩ := a2 hM
        refine ⟨Or.inr (Or.inr (Or.inl ⟨hn, l, hp, Or.inr (Or.inl ⟨hnf, hM, c1, ?_⟩)⟩)), fun e => by omega⟩
        rw [if_neg (by omega)]
        unfold f_81
        rw [h7, c2, if_pos rfl, if_neg (by omega)]
/-- a run that may set the text of Words -/
def XT (t t' : Int) (d y pc : Nat) (L S : List AV) (v : Mem) (Q : Int → Mem → Prop) : Prop := ∃ (x : Int) (v' : Mem), xR d y pc L S (sg t v) = some (rvOf y x, sg t' v') ∧ Q x v'
theorem xt_stp {t t' : Int} {d y pc pc' : Nat} {L S L' S' : List AV} {v : Mem} {Q : Int → Mem → Prop} (e : xr d y pc L S (sg t v) = xr d y pc' L' S' (sg t v)) (h : XT t t' d y pc' L' S' v Q) : XT t t' d y pc L S v Q := by
  obtain ⟨x, v', h1, h2⟩ := h
  refine ⟨x, v', ?_, h2⟩
  unfold xR at h1 ⊢
  rw [e]
  exact h1
theorem xt_call {t t1 t' : Int} {d y pc y' : Nat} {L S as S' : List AV} {v : Mem} {Q : Int → Mem → Prop} {i : Instr} {r : List Int} (h1 : lk (cod y) pc = some (i, r)) (h2 : isStop i r = false) (h3 : calleeOf i r = some y') (h5 : popA (mi y').2.1.reverse S [] = some (as, S')) (h6 : (recvOk y' as (sg t v) && decide (catS S' ≤ 8)) = true) (h : XT t t1 d y' 0 (entL y' as) [] v (fun x v1 => XT t1 t' (d + 1) y (pc + 3) L (rvOf y' x ++ S') v1 Q)) : XT t t' (d + 1) y pc L S v Q := by
  obtain ⟨x, v1, e1, x2, v2, e2, h⟩ := h
  refine ⟨x2, v2, ?_, h⟩
  unfold xR at e2 ⊢
  rw [x_call h1 h2 h3 h5 h6, e1]
  exact e2
/-- behind the beginning of check -/
def bgM (v : Mem) : Mem := up (up (up (up (up v 22 6 (-1)) 22 7 (-1)) 22 8 (-1)) 22 9 (-1)) 1 6 0
/-- what check leaves alone -/
def FrK (v v' : Mem) : Prop := (∀ c, (c < 1 ∨ 11 < c) → (c < 22 ∨ 30 < c ∨ c = 27) → v' c = v c) ∧ (∃ c : Nat, v' 28 2 = c ∧ c ≤ 30) ∧ ∀ k, k < 4 → v' 22 k = v 22 k
theorem check_xt {t : Int} {u : Nat → Int} {n d : Nat} {v : Mem} {Q : Int → Mem → Prop} {r : Except Nat (List FnT)} (hp : PPr (kd u n) 70000 21 0 0 0 = some r) (hd : dB 0 + 10 ≤ d) (hn : n ≤ 3000) (ht : TXT 12 v n) (hk : KWI v) (hu : uB (v 12) n = u) (h28 : ∃ c : Nat, v 28 2 = c ∧ c ≤ 30) (hq : ∀ x v', CKr v' u n r x → FrK v v' → Q x v') : XT t 12 (d + 2) 80 0 [(2, 22), (2, 12), (0, (n : Int)), (3, 0), (3, 0)] [] v Q := by
  refine xt_stp (x_stp (i := .aload_n 0) (r := []) rfl rfl rfl : xr (d + 2) 80 0 [(2, 22), (2, 12), (0, (n : Int)), (3, 0), (3, 0)] [] (sg t v) = xr (d + 2) 80 1 [(2, 22), (2, 12), (0, (n : Int)), (3, 0), (3, 0)] [(2, 22)] (sg t v)) ?_
  refine xt_call (t1 := t) (y' := 83) (as := [(2, 22)]) (S' := []) (i := .invokevirtual 68) (r := [83]) rfl rfl rfl rfl rfl (s_83 (d := d) ?_)
  show XT t 12 (d + 2) 80 4 [(2, 22), (2, 12), (0, (n : Int)), (3, 0), (3, 0)] [] (bgM v) Q
  refine xt_stp (x_stp (i := .iload_n 2) (r := []) rfl rfl rfl : xr (d + 2) 80 4 [(2, 22), (2, 12), (0, (n : Int)), (3, 0), (3, 0)] [] (sg t (bgM v)) = xr (d + 2) 80 5 [(2, 22), (2, 12), (0, (n : Int)), (3, 0), (3, 0)] [(0, (n : Int))] (sg t (bgM v))) ?_
  refine xt_stp (x_stp (i := .sipush 3000) (r := []) rfl rfl rfl : xr (d + 2) 80 5 [(2, 22), (2, 12), (0, (n : Int)), (3, 0), (3, 0)] [(0, (n : Int))] (sg t (bgM v)) = xr (d + 2) 80 8 [(2, 22), (2, 12), (0, (n : Int)), (3, 0), (3, 0)] [(0, 3000), (0, (n : Int))] (sg t (bgM v))) ?_
  have eb : brc .le (n : Int) 3000 20 11 = 20 := by
    show (if (3000 : Int) < (n : Int) then 11 else 20) = 20
    rw [if_neg (by omega)]
  have e8 : xr (d + 2) 80 8 [(2, 22), (2, 12), (0, (n : Int)), (3, 0), (3, 0)] [(0, 3000), (0, (n : Int))] (sg t (bgM v)) = xr (d + 2) 80 (brc .le (n : Int) 3000 20 11) [(2, 22), (2, 12), (0, (n : Int)), (3, 0), (3, 0)] [] (sg t (bgM v)) := x_stp (i := .if_icmp .le 12) (r := [20]) rfl rfl rfl
  rw [eb] at e8
  refine xt_stp e8 ?_
  refine xt_stp (x_stp (i := .aload_n 0) (r := []) rfl rfl rfl : xr (d + 2) 80 20 [(2, 22), (2, 12), (0, (n : Int)), (3, 0), (3, 0)] [] (sg t (bgM v)) = xr (d + 2) 80 21 [(2, 22), (2, 12), (0, (n : Int)), (3, 0), (3, 0)] [(2, 22)] (sg t (bgM v))) ?_
  refine xt_stp (x_stp (i := .getfield 9) (r := [2, 5, 0]) rfl rfl rfl : xr (d + 2) 80 21 [(2, 22), (2, 12), (0, (n : Int)), (3, 0), (3, 0)] [(2, 22)] (sg t (bgM v)) = xr (d + 2) 80 24 [(2, 22), (2, 12), (0, (n : Int)), (3, 0), (3, 0)] [(2, 23)] (sg t (bgM v))) ?_
  refine xt_stp (x_stp (i := .aload_n 1) (r := []) rfl rfl rfl : xr (d + 2) 80 24 [(2, 22), (2, 12), (0, (n : Int)), (3, 0), (3, 0)] [(2, 23)] (sg t (bgM v)) = xr (d + 2) 80 25 [(2, 22), (2, 12), (0, (n : Int)), (3, 0), (3, 0)] [(2, 12), (2, 23)] (sg t (bgM v))) ?_
  refine xt_stp (x_stp (i := .iload_n 2) (r := []) rfl rfl rfl : xr (d + 2) 80 25 [(2, 22), (2, 12), (0, (n : Int)), (3, 0), (3, 0)] [(2, 12), (2, 23)] (sg t (bgM v)) = xr (d + 2) 80 26 [(2, 22), (2, 12), (0, (n : Int)), (3, 0), (3, 0)] [(0, (n : Int)), (2, 12), (2, 23)] (sg t (bgM v))) ?_
  have hd8 : 8 ≤ d := by unfold dB at hd; omega
  obtain ⟨d8, rfl⟩ : ∃ d8, d = d8 + 8 := ⟨d - 8, by omega⟩
  refine xt_call (t1 := 12) (y' := 153) (as := [(2, 23), (2, 12), (0, (n : Int))]) (S' := []) (i := .invokevirtual 71) (r := [153]) rfl rfl rfl rfl rfl (split_rt (d := d8) hn ht hk (fun v2 la hw f4 => ?_))
  show LL 12 (d8 + 8 + 2) 80 29 [(2, 22), (2, 12), (0, (n : Int)), (3, 0), (3, 0)] [] v2 Q
  refine LL.weak (L := [(2, 22), (3, 0), (0, (n : Int)), (3, 0), (3, 0)]) (mask_le [1, 3, 4] [(2, 22), (2, 12), (0, (n : Int)), (3, 0), (3, 0)]) ?_
  have fc : ∀ c, c ≠ 1 → c ≠ 22 → c ≠ 23 → c ≠ 24 → c ≠ 25 → c ≠ 26 → v2 c = v c := fun c a1 a2 a3 a4 a5 a6 => by
    rw [f4 c a3 a4 a5 a6]
    unfold bgM
    rw [up_ne a1, up_ne a2, up_ne a2, up_ne a2, up_ne a2]
  have f22 : v2 22 = bgM v 22 := f4 22 (by decide) (by decide) (by decide) (by decide)
  refine check_k hp hd hw hn (by rw [fc 12 (by decide) (by decide) (by decide) (by decide) (by decide) (by decide)]; exact hu) (by rw [f22]; rfl) (by rw [f22]; rfl) (by rw [f22]; rfl) (by rw [f22]; rfl) (by rw [f4 1 (by decide) (by decide) (by decide) (by decide)]; rfl) (by rw [fc 28 (by decide) (by decide) (by decide) (by decide) (by decide) (by decide)]; exact h28) (fun x v3 hc hf => hq x v3 hc ⟨fun c a1 a2 => ?_, hf.2.1, fun k hk => ?_⟩)
  · rw [hf.1 c a1 (by omega) (by omega)]
    exact fc c (by omega) (by omega) (by omega) (by omega) (by omega) (by omega)
  · rw [hf.2.2 k hk, f22]
    unfold bgM
    rw [up_ne (by decide), up_nk (by omega), up_nk (by omega), up_nk (by omega), up_nk (by omega)]
