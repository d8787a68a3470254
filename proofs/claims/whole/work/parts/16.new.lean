/-! New cells, constants, fields of texts, arraycopy. Printed by wip/whole/gen/gennew.py. -/
theorem wsO_alloc {cA : Nat → ClassId} {E : EE} {σ : Sg} {ad : Nat → Nat} {q kd len : Nat} (h : okS σ) : wsO cA E (sAlloc σ kd len) (fun c => if c = σ.1 then q else ad c) = wsO cA E σ ad ++ [(q, entE cA E (sAlloc σ kd len) (fun c => if c = σ.1 then q else ad c) σ.1)] := by
  unfold wsO
  show (List.range (σ.1 + 1)).map _ = _
  rw [List.range_succ, List.map_append]
  congr 1
  · apply List.map_congr_left
    intro c hc
    have hc : c < σ.1 := List.mem_range.mp hc
    have hne : c ≠ σ.1 := by omega
    dsimp only
    rw [if_neg hne]
    congr 1
    obtain ⟨h1, h2, h3⟩ := h c hc
    have e1 : (sAlloc σ kd len).2.2.1 c = σ.2.2.1 c := if_neg hne
    have e2 : (sAlloc σ kd len).2.2.2.1 c = σ.2.2.2.1 c := by funext k; exact if_neg hne
    have e3 : (sAlloc σ kd len).2.2.2.2 c = σ.2.2.2.2 c := by funext k; exact if_neg hne
    unfold entE
    rw [e1, e3]
    by_cases ho : (σ.2.2.1 c).1 < 100
    · rw [if_pos ho, if_pos ho]
      congr 2
      apply List.map_congr_left
      intro k _
      unfold fval
      rw [e2, e3]
      by_cases ht : ft (σ.2.2.1 c).1 k = 2
      · rw [if_pos ht, if_pos ht]
        have ht2 : tgc σ c k = 2 := by unfold tgc; rw [if_pos ho]; exact ht
        exact cvR_ext (n := σ.1) (fun c' hc' => if_neg (by omega)) ((h3 k).1 ht2).2
      · rw [if_neg ht, if_neg ht]
    · rw [if_neg ho, if_neg ho]
  · simp
theorem okS_alloc {σ : Sg} {kd len : Nat} (h : okS σ) (hk : kd < 11 ∨ (100 ≤ kd ∧ kd < 104)) (hl : len < 20000) (hft : ∀ k, kd < 11 → (ft kd k = 0 ∨ ft kd k = 1 ∨ ft kd k = 2 ∨ ft kd k = 4)) : okS (sAlloc σ kd len) := by
  intro c hc
  have hc : c < σ.1 + 1 := hc
  by_cases he : c = σ.1
  · have e1 : (sAlloc σ kd len).2.2.1 c = (kd, len) := if_pos he
    have e2 : ∀ k, (sAlloc σ kd len).2.2.2.1 c k = -1 := fun k => if_pos he
    have e3 : ∀ k, (sAlloc σ kd len).2.2.2.2 c k = 0 := fun k => if_pos he
    refine ⟨by rw [e1]; exact hk, by rw [e1]; exact hl, fun k => ⟨fun _ => by rw [e2]; show _ ∧ _ < ((σ.1 + 1 : Nat) : Int); omega, fun ht => ?_⟩⟩
    rw [e3]
    unfold tgc at ht ⊢
    rw [e1] at ht ⊢
    dsimp only at ht ⊢
    by_cases h1 : kd < 100
    · rw [if_pos h1] at ht ⊢
      rcases hft k (by omega) with q | q | q | q
      · rw [q]; exact ⟨by omega, by omega⟩
      · rw [q]; exact ⟨by omega, by omega⟩
      · exact absurd q ht
      · rw [q]; exact Or.inl rfl
    · rw [if_neg h1]
      split
      · exact Or.inl rfl
      · split
        · exact ⟨by omega, by omega⟩
        · split
          · exact ⟨by omega, by omega⟩
          · exact ⟨by omega, by omega⟩
  · have hc' : c < σ.1 := by omega
    obtain ⟨h1, h2, h3⟩ := h c hc'
    have e1 : (sAlloc σ kd len).2.2.1 c = σ.2.2.1 c := if_neg he
    have e2 : ∀ k, (sAlloc σ kd len).2.2.2.1 c k = σ.2.2.2.1 c k := fun k => if_neg he
    have e3 : ∀ k, (sAlloc σ kd len).2.2.2.2 c k = σ.2.2.2.2 c k := fun k => if_neg he
    have e4 : ∀ k, tgc (sAlloc σ kd len) c k = tgc σ c k := fun k => by unfold tgc; rw [e1]
    refine ⟨by rw [e1]; exact h1, by rw [e1]; exact h2, fun k => ⟨fun ht => ?_, fun ht => ?_⟩⟩
    · rw [e4] at ht
      rw [e2]
      have := (h3 k).1 ht
      show _ ∧ _ < ((σ.1 + 1 : Nat) : Int)
      omega
    · rw [e4] at ht ⊢
      rw [e3]
      exact (h3 k).2 ht
theorem okA_mono {n n' : Nat} (h : n ≤ n') {q : AV} (hq : okA n q) : okA n' q := by
  obtain ⟨t, a⟩ := q
  match t, hq with
  | 0, hq => exact hq
  | 1, hq => exact hq
  | 2, hq =>
    have hq : a < (n : Int) := hq
    show a < (n' : Int)
    omega
  | _ + 3, _ => exact trivial
theorem LR.ext {E : EE} {ad ad1 : Nat → Nat} {n nL : Nat} {ls : Array Slot} {L : List AV} (h : LR E ad nL ls L) (he : ∀ c, c < n → ad1 c = ad c) (hL : ∀ q ∈ L, okA n q) : LR E ad1 nL ls L :=
  ⟨h.1, h.2.1, h.2.2.1, fun i q hq h3 => by rw [cv_ext he (hL q (List.mem_of_getElem? hq))]; exact h.2.2.2 i q hq h3⟩
theorem map_ext {E : EE} {ad ad1 : Nat → Nat} {n : Nat} {S : List AV} (he : ∀ c, c < n → ad1 c = ad c) (hS : ∀ q ∈ S, okA n q) : S.map (cv E ad1) = S.map (cv E ad) := List.map_congr_left (fun q hq => cv_ext he (hS q hq))
set_option maxRecDepth 100000 in
theorem ft_four : ∀ ci, ci < 11 → ∀ k, k < nN ci → (ft ci k = 0 ∨ ft ci k = 1 ∨ ft ci k = 2 ∨ ft ci k = 4) := by decide +kernel
set_option maxRecDepth 100000 in
theorem ft_len : ∀ ci, ci < 11 → (ftL.getD ci []).length = nN ci := by decide +kernel
theorem ft_all {ci : Nat} (h : ci < 11) (k : Nat) : ft ci k = 0 ∨ ft ci k = 1 ∨ ft ci k = 2 ∨ ft ci k = 4 := by
  by_cases hk : k < nN ci
  · exact ft_four ci h k hk
  · refine Or.inl ?_
    unfold ft
    rw [List.getD_eq_getElem?_getD, List.getElem?_eq_none (by rw [ft_len ci h]; omega)]
    rfl
set_option maxRecDepth 100000 in
theorem CK_ok : ∀ q ∈ CK, q.2.2 < 11 := by decide +kernel
theorem nN_eq (ci : Nat) : [1, 5, 7, 13, 14, 16, 4, 5, 8, 8, 82].getD ci 0 = nN ci := rfl
theorem nN_small : ∀ ci, ci < 11 → nN ci < 20000 := by decide
section STN
variable {p : Program} {l : Launch} {e : Env} {R : Room} {s : State} {m : MethodId} {args : Array Value} {below : List Frame} {meth : Method} {c : Code} {H : Heap} {locs : List Loc} {cells slots : Nat} {Q : State → Prop} {G : va_G} {cA : Nat → ClassId} {E : EE} {B0 : Nat → Prop} {y d nL : Nat} {ad : Nat → Nat} {σ : Sg} {ls : Array Slot} {L S : List AV} {pc : Nat}
/-- behind the making of a cell -/
theorem KT.made {pc1 kd len q : Nat} {S1 : List AV} {H1 : Heap} {locs1 : List Loc} (kk : KT p l e R s m args below meth c Q G cA E B0 nL cells slots ad σ pc1 L ((2, (σ.1 : Int)) :: S1) (sAlloc σ kd len)) (hR : REL G cA E B0 s.heap nL ad σ H locs ls L S) (ho : okS (sAlloc σ kd len)) (hS : ∀ q ∈ S1, okA σ.1 q)
    (hP : va_P G vCl (wsO cA E σ ad ++ [(q, entE cA E (sAlloc σ kd len) (fun c => if c = σ.1 then q else ad c) σ.1)]) H1) (hD : va_D B0 (wsO cA E σ ad ++ [(q, entE cA E (sAlloc σ kd len) (fun c => if c = σ.1 then q else ad c) σ.1)])) (hS1 : va_S B0 s.heap H1 locs1) : W p l e R s m args below meth c H1 locs1 (cells + 1) (slots + len) Q (F0 m pc1 ls (.ref q :: S1.map (cv E ad))) := by
  rw [← wsO_alloc hR.2.2.2.2.1] at hP hD
  have hext : ∀ c, c < σ.1 → (fun c => if c = σ.1 then q else ad c) c = ad c := fun c hc => if_neg (by omega)
  have h := kk (fun c => if c = σ.1 then q else ad c) H1 locs1 ls hext ⟨hP, hD, hS1, hR.2.2.2.1.ext hext hR.2.2.2.2.2.1, ho, fun q hq => okA_mono (Nat.le_succ _) (hR.2.2.2.2.2.1 q hq), okc (show ((σ.1 : Nat) : Int) < ((σ.1 + 1 : Nat) : Int) by omega) (fun q hq => okA_mono (Nat.le_succ _) (hS q hq))⟩
  have e1 : (sAlloc σ kd len).1 - σ.1 = 1 := Nat.add_sub_cancel_left _ _
  have e2 : (sAlloc σ kd len).2.1 - σ.2.1 = len := Nat.add_sub_cancel_left _ _
  rw [e1, e2] at h
  rw [List.map_cons, map_ext hext hS, cv_ref] at h
  have e3 : (if σ.1 = σ.1 then q else ad σ.1) = q := if_pos rfl
  rw [e3] at h
  exact h
theorem st_new {idx : Nat} {r : List Int} {pc1 : Nat} {L1 S1 : List AV} {σ1 : Sg} (C : CX p R s m args meth c y d G cA E B0) (he : (pc, (.new idx : Instr), r) ∈ cod y) (h : stp nS sB (.new idx) r pc L S σ = some (pc1, L1, S1, σ1)) (hnL : nL = mL y) (hR : REL G cA E B0 s.heap nL ad σ H locs ls L S) (hcc : cells + (σ1.1 - σ.1) ≤ R.cells) (hcs : slots + (σ1.2.1 - σ.2.1) ≤ R.slots) (kk : KT p l e R s m args below meth c Q G cA E B0 nL cells slots ad σ pc1 L1 S1 σ1) : W p l e R s m args below meth c H locs cells slots Q (F0 m pc ls (S.map (cv E ad))) := by
  obtain ⟨hx, hb, hml, hown, hts, hin, hEV, hB0, hfr, hlo⟩ := C
  have hok := ok_all he
  have hok' := (Bool.and_eq_true _ _).mp hok.2
  have hd : decode (bc y) pc = .ok (.new idx, lenI (.new idx) r) := of_decide_eq_true hok'.1
  have hres : resB (mi y).1 (isIn y) pc (.new idx) r = true := hok'.2
  have hSok := hR.2.2.2.2.2.2
  unfold stp at h
  dsimp only at h
  have hh := h
  clear h
  match r, hh, hres, he, hd with
  | [], h, _, _, _ => cases h
  | _ :: _ :: _, h, _, _, _ => cases h
  | [.negSucc n], h, _, _, _ =>
    obtain ⟨hn, h⟩ := bif0_some h
    rw [Bool.and_eq_true, decide_eq_true_eq, decide_eq_true_eq] at hn
    exact absurd hn.1 (by omega)
  | [.ofNat ci], h, hres, he, hd =>
    obtain ⟨hn, h⟩ := bif0_some h
    rw [Bool.and_eq_true, decide_eq_true_eq, decide_eq_true_eq] at hn
    have hci : ci < 11 := by
      have h8 : (ci : Int) < 11 := hn.2
      omega
    have hCK : ((mi y).1, idx, ci) ∈ CK := by
      have h1 : CK.contains ((mi y).1, idx, ci) = true := hres
      simpa using h1
    cases h
    have hcc : cells + ((σ.1 + 1) - σ.1) ≤ R.cells := hcc
    have hcs : slots + ((σ.2.1 + nN ci) - σ.2.1) ≤ R.slots := hcs
    have ho := okS_alloc (kd := ci) (len := nN ci) hR.2.2.2.2.1 (Or.inl hci) (nN_small ci hci) (fun k _ => ft_all hci k)
    refine va_new (D := G) (cl := vCl) (ci := ci) (fs := (List.range (nN ci)).map (fun k => if ft ci k = 2 then Value.null else if ft ci k = 1 then .long 0 else .int 0)) (C := Rn ci) (T := TT ci) (N := nN ci) (own := Rn (mi y).1) hx hb hts (inT hci) (tyT ci) (tyT_ok ci hci) hown (hts _ (tw_of (in_CK _ hCK) rfl)) (hts _ (tw_of (in_is ci (by simp; omega)) rfl)) (hts _ (tw_of (in_ci ci (by simp; omega)) rfl)) hEV.1 hR.1 hR.2.1 hR.2.2.1 hB0 (vCl_at hci) ?_ (by omega) (by omega) hd ?_
    · intro j hj
      have e1 : vp_V ((List.range (nN ci)).map (fun k => if ft ci k = 2 then Value.null else if ft ci k = 1 then .long 0 else .int 0)) j = (if ft ci j = 2 then Value.null else if ft ci j = 1 then .long 0 else .int 0) := by
        unfold vp_V
        rw [List.getD_eq_getElem?_getD]
        simp [List.getElem?_range hj]
      rw [e1]
      rcases ft_ty ci hci j hj with ⟨q, hty⟩ | ⟨q, hty⟩ | ⟨q, hty⟩ | ⟨q, hty⟩
      · rw [q, hty]; rfl
      · rw [q, hty]; rfl
      · rw [q, hty]; rfl
      · rw [q, if_pos rfl]
        cases ht : tyT ci j <;> rw [ht] at hty <;> first | rfl | (exact absurd hty (by decide))
    · intro q H1 hP hD hS
      have e2 : ∀ q, entE cA E (sAlloc σ ci (nN ci)) (fun c => if c = σ.1 then q else ad c) σ.1 = .inr (ci, (List.range (nN ci)).map (fun k => if ft ci k = 2 then Value.null else if ft ci k = 1 then .long 0 else .int 0)) := by
        intro q
        rw [entE_obj (ci := ci) (by show (if σ.1 = σ.1 then (ci, nN ci) else _).1 = ci; rw [if_pos rfl]) hci]
        congr 2
        apply List.map_congr_left
        intro k _
        unfold fval
        have e3 : (sAlloc σ ci (nN ci)).2.2.2.1 σ.1 k = -1 := if_pos rfl
        have e4 : (sAlloc σ ci (nN ci)).2.2.2.2 σ.1 k = 0 := if_pos rfl
        rw [e3, e4]
        rfl
      rw [← e2 q] at hP hD
      exact kk.made (kd := ci) (len := nN ci) hR ho hSok hP hD hS
theorem st_newarray {ty : ArrayType} {r : List Int} {pc1 : Nat} {L1 S1 : List AV} {σ1 : Sg} (C : CX p R s m args meth c y d G cA E B0) (he : (pc, (.newarray ty : Instr), r) ∈ cod y) (h : stp nS sB (.newarray ty) r pc L S σ = some (pc1, L1, S1, σ1)) (hnL : nL = mL y) (hR : REL G cA E B0 s.heap nL ad σ H locs ls L S) (hcc : cells + (σ1.1 - σ.1) ≤ R.cells) (hcs : slots + (σ1.2.1 - σ.2.1) ≤ R.slots) (kk : KT p l e R s m args below meth c Q G cA E B0 nL cells slots ad σ pc1 L1 S1 σ1) : W p l e R s m args below meth c H locs cells slots Q (F0 m pc ls (S.map (cv E ad))) := by
  obtain ⟨hx, hb, hml, hown, hts, hin, hEV, hB0, hfr, hlo⟩ := C
  have hok := ok_all he
  have hok' := (Bool.and_eq_true _ _).mp hok.2
  have hd : decode (bc y) pc = .ok (.newarray ty, lenI (.newarray ty) r) := of_decide_eq_true hok'.1
  have hres : resB (mi y).1 (isIn y) pc (.newarray ty) r = true := hok'.2
  have hSok := hR.2.2.2.2.2.2
  unfold stp at h
  dsimp only at h
  have h9 := bI_some h
  clear h
  obtain ⟨n, S3, rfl, h⟩ := h9
  obtain ⟨hn, h⟩ := bif0_some h
  rw [Bool.and_eq_true, decide_eq_true_eq, decide_eq_true_eq] at hn
  have hgo : ∀ (t : Nat) (a0 : vp_A), t < 4 → newarray.typeOf ty = aTy t → (∀ cA : ClassId, vp_cell cA a0 = arrV cA n.toNat (fun _ => defaultValue (aTy t))) → (∀ q, entE cA E (sAlloc σ (100 + t) n.toNat) (fun c => if c = σ.1 then q else ad c) σ.1 = .inl (cA t, a0)) → n.toNat * componentBytes (aTy t) ≤ 536870912 → (∀ c1 : ClassId, va_RA s c1 (aTy t) → c1 = cA t) → (some (pc + 2, L, ((2, (σ.1 : Int)) :: S3 : List AV), sAlloc σ (100 + t) n.toNat) = some (pc1, L1, S1, σ1)) → W p l e R s m args below meth c H locs cells slots Q (F0 m pc ls (.int (Int32.ofInt n) :: S3.map (cv E ad))) := by
    intro t a0 ht hty ha he9 hby hra h
    cases h
    have hcc : cells + ((σ.1 + 1) - σ.1) ≤ R.cells := hcc
    have hcs : slots + ((σ.2.1 + n.toNat) - σ.2.1) ≤ R.slots := hcs
    have ho := okS_alloc (kd := 100 + t) (len := n.toNat) hR.2.2.2.2.1 (Or.inr ⟨by omega, by omega⟩) (by omega) (fun k hk => absurd hk (by omega))
    refine va_newa (D := G) (cl := vCl) (atype := ty) (ty := aTy t) (N' := n.toNat) (a0 := a0) hx hb (by rw [hty]; exact hts _ (tw_of (in_at t (by simp; omega)) rfl)) hty hEV.1 hR.1 hR.2.1 hR.2.2.1 hB0 ha (by rw [z32, lt32 (by omega) (by omega)]; omega) (by rw [cl32 (by omega) (by omega)]) hby (by omega) (by omega) hd ?_
    intro q c1 H1 hK hP hD hS
    have e1 : c1 = cA t := hra c1 (hK.2 (aTys cA).length (c1, aTy t) (by simp)).2
    rw [e1, ← he9 q] at hP hD
    exact kk.made (kd := 100 + t) (len := n.toNat) hR ho (okt hSok) hP hD hS
  have hA : ∀ t, t < 4 → ∀ c1 : ClassId, va_RA s c1 (aTy t) → c1 = cA t := by
    intro t ht c1 h1
    have h2 : va_RA s (cA t) (aTy t) := by
      match t, ht with
      | 0, _ => exact (hEV.1.2 0 (cA 0, .boolean) rfl).2
      | 1, _ => exact (hEV.1.2 1 (cA 1, .byte) rfl).2
      | 2, _ => exact (hEV.1.2 2 (cA 2, .int) rfl).2
      | 3, _ => exact (hEV.1.2 3 (cA 3, .long) rfl).2
      | n + 4, h => omega
    match t, ht, h1, h2 with
    | 0, _, h1, h2 => exact Option.some.inj (h1.symm.trans h2)
    | 1, _, h1, h2 => exact Option.some.inj (h1.symm.trans h2)
    | 2, _, h1, h2 => exact Option.some.inj (h1.symm.trans h2)
    | 3, _, h1, h2 => exact Option.some.inj (h1.symm.trans h2)
    | n + 4, h, _, _ => omega
  have hI : ∀ t, t < 3 → ∀ q, entE cA E (sAlloc σ (100 + t) n.toNat) (fun c => if c = σ.1 then q else ad c) σ.1 = .inl (cA t, (n.toNat, .inl (fun _ => 0))) := by
    intro t ht q
    have e0 : (sAlloc σ (100 + t) n.toNat).2.2.1 σ.1 = (100 + t, n.toNat) := if_pos rfl
    rw [entE_i (t := t) (by rw [e0]) ht, e0]
    congr 3
    try dsimp only
    congr 1
    funext i
    have e4 : (sAlloc σ (100 + t) n.toNat).2.2.2.2 σ.1 i = 0 := if_pos rfl
    rw [e4]
    rfl
  have hJ : ∀ q, entE cA E (sAlloc σ (100 + 3) n.toNat) (fun c => if c = σ.1 then q else ad c) σ.1 = .inl (cA 3, (n.toNat, .inr (.inl (fun _ => 0)))) := by
    intro q
    have e0 : (sAlloc σ (100 + 3) n.toNat).2.2.1 σ.1 = (100 + 3, n.toNat) := if_pos rfl
    rw [entE_l (by rw [e0]), e0]
    congr 3
    try dsimp only
    congr 2
    funext i
    have e4 : (sAlloc σ (100 + 3) n.toNat).2.2.2.2 σ.1 i = 0 := if_pos rfl
    rw [e4]
    rfl
  cases ty with
  | boolean => exact hgo 0 (n.toNat, .inl (fun _ => 0)) (by decide) rfl (fun _ => rfl) (hI 0 (by decide)) (by show n.toNat * 1 ≤ _; omega) (hA 0 (by decide)) h
  | byte => exact hgo 1 (n.toNat, .inl (fun _ => 0)) (by decide) rfl (fun _ => rfl) (hI 1 (by decide)) (by show n.toNat * 1 ≤ _; omega) (hA 1 (by decide)) h
  | int => exact hgo 2 (n.toNat, .inl (fun _ => 0)) (by decide) rfl (fun _ => rfl) (hI 2 (by decide)) (by show n.toNat * 4 ≤ _; omega) (hA 2 (by decide)) h
  | long => exact hgo 3 (n.toNat, .inr (.inl (fun _ => 0))) (by decide) rfl (fun _ => rfl) hJ (by show n.toNat * 8 ≤ _; omega) (hA 3 (by decide)) h
  | char => cases h
  | float => cases h
  | double => cases h
  | short => cases h
theorem st_objinit {idx : Nat} {r : List Int} {pc1 : Nat} {L1 S1 : List AV} {σ1 : Sg} (C : CX p R s m args meth c y d G cA E B0) (he : (pc, (.invokespecial idx : Instr), r) ∈ cod y) (h : stp nS sB (.invokespecial idx) r pc L S σ = some (pc1, L1, S1, σ1)) (hnL : nL = mL y) (hR : REL G cA E B0 s.heap nL ad σ H locs ls L S) (kk : KT p l e R s m args below meth c Q G cA E B0 nL cells slots ad σ pc1 L1 S1 σ1) : W p l e R s m args below meth c H locs cells slots Q (F0 m pc ls (S.map (cv E ad))) := by
  obtain ⟨hx, hb, hml, hown, hts, hin, hEV, hB0, hfr, hlo⟩ := C
  have hok := ok_all he
  have hok' := (Bool.and_eq_true _ _).mp hok.2
  have hd : decode (bc y) pc = .ok (.invokespecial idx, lenI (.invokespecial idx) r) := of_decide_eq_true hok'.1
  have hres : resB (mi y).1 (isIn y) pc (.invokespecial idx) r = true := hok'.2
  have hSok := hR.2.2.2.2.2.2
  unfold stp at h
  dsimp only at h
  have hr : r = [-1] ∨ r ≠ [-1] := Decidable.em _
  rcases hr with rfl | hr
  · have h9 := bR_some h
    clear h
    obtain ⟨a, S3, rfl, h⟩ := h9
    obtain ⟨hn, h⟩ := bif0_some h
    rw [Bool.and_eq_true, decide_eq_true_eq, decide_eq_true_eq] at hn
    cases h
    obtain ⟨j, rfl⟩ : ∃ j : Nat, a = (j : Int) := ⟨a.toNat, by omega⟩
    show W p l e R s m args below meth c H locs cells slots Q (F0 m pc ls (cv E ad (2, (j : Int)) :: S1.map (cv E ad)))
    rw [cv_ref]
    have hOI : ((mi y).1, idx) ∈ OI := by
      have h1 : OI.contains ((mi y).1, idx) = true := hres
      simpa using h1
    refine W.objInit hx hb hown (hts _ (tw_of (in_OI _ hOI) rfl)) (hts _ (tw_of in_oi rfl)) (hts _ (tw_of in_oc rfl)) rfl (by rw [hml, ← hnL]; exact hR.2.2.2.1.1) rfl hd (by omega) ?_ ?_
    · rw [catS_eq hEV.2.2.2.2]
      show 2 * 0 + catS S1 + 12 ≤ R.locals
      omega
    · exact kk.stk hR (okt hSok)
  · exfalso
    split at h
    · exact absurd rfl hr
    · cases h
theorem st_arraycopy {idx : Nat} {r : List Int} {pc1 : Nat} {L1 S1 : List AV} {σ1 : Sg} (C : CX p R s m args meth c y d G cA E B0) (he : (pc, (.invokestatic idx : Instr), r) ∈ cod y) (h : stp nS sB (.invokestatic idx) r pc L S σ = some (pc1, L1, S1, σ1)) (hnL : nL = mL y) (hR : REL G cA E B0 s.heap nL ad σ H locs ls L S) (kk : KT p l e R s m args below meth c Q G cA E B0 nL cells slots ad σ pc1 L1 S1 σ1) : W p l e R s m args below meth c H locs cells slots Q (F0 m pc ls (S.map (cv E ad))) := by
  obtain ⟨hx, hb, hml, hown, hts, hin, hEV, hB0, hfr, hlo⟩ := C
  have hok := ok_all he
  have hok' := (Bool.and_eq_true _ _).mp hok.2
  have hd : decode (bc y) pc = .ok (.invokestatic idx, lenI (.invokestatic idx) r) := of_decide_eq_true hok'.1
  have hres : resB (mi y).1 (isIn y) pc (.invokestatic idx) r = true := hok'.2
  have hSok := hR.2.2.2.2.2.2
  unfold stp at h
  dsimp only at h
  have hr : r = [-2] ∨ r ≠ [-2] := Decidable.em _
  rcases hr with rfl | hr
  · have h9 := bI_some h
    clear h
    obtain ⟨n, S3, rfl, h⟩ := h9
    have h9 := bI_some h
    clear h
    obtain ⟨dp, S4, rfl, h⟩ := h9
    have h9 := bR_some h
    clear h
    obtain ⟨b, S5, rfl, h⟩ := h9
    have h9 := bI_some h
    clear h
    obtain ⟨sp, S6, rfl, h⟩ := h9
    have h9 := bR_some h
    clear h
    obtain ⟨a, S7, rfl, h⟩ := h9
    obtain ⟨hn, h⟩ := bif0_some h
    rw [Bool.and_eq_true, Bool.and_eq_true, decide_eq_true_eq] at hn
    obtain ⟨⟨hc1, hc2⟩, hcat⟩ := hn
    obtain ⟨hg, h⟩ := guardP_some h
    obtain ⟨j, rfl, hj, hsh⟩ := isC_spec hc1
    obtain ⟨k, rfl, hk, hsh2⟩ := isC_spec hc2
    rw [Int.toNat_natCast, Int.toNat_natCast] at hg h
    have hg : 0 ≤ n ∧ 0 ≤ sp ∧ 0 ≤ dp ∧ sp + n ≤ ((σ.2.2.1 j).2 : Int) ∧ dp + n ≤ ((σ.2.2.1 k).2 : Int) := hg
    have hsz := (hR.2.2.2.2.1 j hj).2.1
    have hsz2 := (hR.2.2.2.2.1 k hk).2.1
    cases h
    have hAC : ((mi y).1, idx) ∈ AC := by
      have h1 : AC.contains ((mi y).1, idx) = true := hres
      simpa using h1
    show W p l e R s m args below meth c H locs cells slots Q (F0 m pc ls (.int (Int32.ofInt n) :: .int (Int32.ofInt dp) :: cv E ad (2, (k : Int)) :: .int (Int32.ofInt sp) :: cv E ad (2, (j : Int)) :: S1.map (cv E ad)))
    rw [cv_ref, cv_ref]
    have cn : (Int32.ofInt n).toNatClampNeg = n.toNat := cl32 (by omega) (by omega)
    have cs : (Int32.ofInt sp).toNatClampNeg = sp.toNat := cl32 (by omega) (by omega)
    have cd : (Int32.ofInt dp).toNatClampNeg = dp.toNat := cl32 (by omega) (by omega)
    have hbyte : ∀ i, -128 ≤ σ.2.2.2.2 j i ∧ σ.2.2.2.2 j i < 128 := by
      intro i
      have h9 := ((hR.2.2.2.2.1 j hj).2.2 i).2 (by rw [tg_arr (t := 1) hsh (by decide)]; decide)
      rw [tg_arr (t := 1) hsh (by decide)] at h9
      exact h9
    refine va_copyi (D := G) (cl := vCl) hx hb (by rw [hml, ← hnL]; exact hR.2.2.2.1.1.symm) hown (hts _ (tw_of (in_AC _ hAC) rfl)) (hts _ (tw_of in_nat rfl)) (hts _ (tw_of in_acs rfl)) (hts _ (tw_of in_sys rfl)) hEV.1 hR.1 hR.2.1 hR.2.2.1 j k 1 1 (c0 := cA 1) (c1 := cA 1) (n0 := (σ.2.2.1 j).2) (n1 := (σ.2.2.1 k).2) (f := fun i => Int32.ofInt (σ.2.2.2.2 j i)) (g := fun i => Int32.ofInt (σ.2.2.2.2 k i)) (ty := .byte) (by rw [wsO_at hj, entE_i (t := 1) hsh (by decide)]) (by rw [wsO_at hk, entE_i (t := 1) hsh2 (by decide)]) rfl rfl rfl
      (by rw [z32, lt32 (by omega) (by omega)]; omega) (by rw [z32, lt32 (by omega) (by omega)]; omega) (by rw [z32, lt32 (by omega) (by omega)]; omega) (by rw [cn, cs]; omega) (by rw [cn, cd]; omega) ?_ (by omega) ?_ hd ?_
    · intro i _
      have h9 := hbyte ((Int32.ofInt sp).toNatClampNeg + i)
      show (decide (-128 ≤ Int32.ofInt _) && decide (Int32.ofInt _ ≤ 127)) = true
      rw [Bool.and_eq_true, decide_eq_true_eq, decide_eq_true_eq]
      exact ⟨(le32 (a := -128) (by omega) (by omega)).mpr h9.1, (le32 (b := 127) (by omega) (by omega)).mpr (by omega)⟩
    · rw [catS_eq hEV.2.2.2.2]
      show catS S1 + (7 + 11) ≤ R.locals
      omega
    · intro H1 locs1 hP hD hS
      rw [cn, cs, cd] at hP hD
      have hent : entE cA E (sCpy σ j sp.toNat k dp.toNat n.toNat) ad k = .inl (cA 1, (σ.2.2.1 k).2, .inl (va_cpy (fun i => Int32.ofInt (σ.2.2.2.2 j i)) (fun i => Int32.ofInt (σ.2.2.2.2 k i)) sp.toNat dp.toNat n.toNat)) := by
        rw [entE_i (σ := sCpy σ j sp.toNat k dp.toNat n.toNat) (t := 1) hsh2 (by decide)]
        congr 4
        funext i
        show Int32.ofInt (cpV σ.2.2.2.2 j sp.toNat k dp.toNat n.toNat k i) = _
        unfold cpV va_cpy
        rw [if_pos rfl]
        split <;> rfl
      refine kk.cell (k := k) hR rfl rfl hk (fun i h1 _ => ?_) ?_ (okt (okt (okt (okt (okt hSok))))) (by rw [hent]; exact hP) (by rw [hent]; exact hD) hS
      · have hv : (sCpy σ j sp.toNat k dp.toNat n.toNat).2.2.2.2 i = σ.2.2.2.2 i := by
          funext k'
          exact if_neg h1
        unfold entE fval
        rw [hv]
        rfl
      · intro c' hc'
        obtain ⟨h1, h2, h3⟩ := hR.2.2.2.2.1 c' hc'
        refine ⟨h1, h2, fun k' => ⟨(h3 k').1, fun ht => ?_⟩⟩
        have ht : tgc σ c' k' ≠ 2 := ht
        show rng (tgc σ c' k') (cpV σ.2.2.2.2 j sp.toNat k dp.toNat n.toNat c' k')
        unfold cpV
        by_cases e1 : c' = k
        · rw [if_pos e1]
          split
          · subst e1
            rw [tg_arr (t := 1) hsh2 (by decide)]
            exact hbyte _
          · exact (h3 k').2 ht
        · rw [if_neg e1]
          exact (h3 k').2 ht
  · exfalso
    split at h
    · exact absurd rfl hr
    · cases h
end STN
