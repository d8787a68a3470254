/-! The law's start: the two objects, its own row, and the loop. -/
def sg0 : Sg := (0, 0, fun _ => (0, 0), fun _ _ => -1, fun _ _ => 0)
set_option maxRecDepth 100000 in
theorem kl_8 : Cond.classLink RL 8 (Rn 9) ∈ lw_tbl := List.mem_of_getElem? (i := 176) rfl
set_option maxRecDepth 100000 in
theorem kl_38 : Cond.classLink RL 38 (Rn 10) ∈ lw_tbl := List.mem_of_getElem? (i := 1439) rfl
set_option maxRecDepth 100000 in
theorem kl_37 : Cond.methodLink RL 37 (yn 171) ∈ lw_tbl := List.mem_of_getElem? (i := 178) rfl
set_option maxRecDepth 100000 in
theorem kl_40 : Cond.methodLink RL 40 (yn 181) ∈ lw_tbl := List.mem_of_getElem? (i := 1441) rfl
section STA
variable {p : Program} {l : Launch} {e : Env} {s : State} {m : MethodId} {below : List Frame} {meth : Method} {c : Code} {H : Heap} {locs : List Loc} {cells slots : Nat} {Q : State → Prop} {G : va_G} {cA : Nat → ClassId} {E : EE} {A : Nat → Prop} {ad : Nat → Nat} {ls : Array Slot} {pc b : Nat} {rest : List Value} {σ : Sg}
theorem lw_new {ci idx : Nat} (hx : p.tables.exec = Jvm.exec) (hb : c.code = code) (hown : s.vm.findClass RL = some m.cls) (hts : ∀ w ∈ tw, w.before #[Value.ref b] s = true) (hlink : Cond.classLink RL idx (Rn ci) ∈ lw_tbl) (hK : va_K G vCl (aTys cA) s) (hP : va_P G vCl (wsO cA E σ ad) H) (hD : va_D A (wsO cA E σ ad)) (hS : va_S A s.heap H locs) (hA : ∀ q, s.heap.size ≤ q → A q) (hok : okS σ) (hci : ci < 11) (hc : cells + 1 ≤ 601024) (hs : slots + nN ci ≤ 7293034) (hdg : decode code pc = .ok (.new idx, 3))
    (kk : ∀ (q : Nat) (H1 : Heap), va_P G vCl (wsO cA E (sAlloc σ ci (nN ci)) (fun c => if c = σ.1 then q else ad c)) H1 → va_D A (wsO cA E (sAlloc σ ci (nN ci)) (fun c => if c = σ.1 then q else ad c)) → va_S A s.heap H1 locs → okS (sAlloc σ ci (nN ci)) → W p l e room_1 s m #[Value.ref b] below meth c H1 locs (cells + 1) (slots + nN ci) Q (F0 m (pc + 3) ls (.ref q :: rest))) : W p l e room_1 s m #[Value.ref b] below meth c H locs cells slots Q (F0 m pc ls rest) := by
  have ho := okS_alloc (kd := ci) (len := nN ci) hok (Or.inl hci) (nN_small ci hci) (fun k _ => ft_all hci k)
  refine va_new (D := G) (cl := vCl) (ci := ci) (fs := (List.range (nN ci)).map (fun k => if ft ci k = 2 then Value.null else if ft ci k = 1 then .long 0 else .int 0)) (C := Rn ci) (T := TT ci) (N := nN ci) (own := RL) hx hb hts (inT hci) (tyT ci) (tyT_ok ci hci) hown (hts _ (tw_of hlink rfl)) (hts _ (tw_of (in_is ci (by simp; omega)) rfl)) (hts _ (tw_of (in_ci ci (by simp; omega)) rfl)) hK hP hD hS hA (vCl_at hci) ?_ hc hs hdg ?_
  · intro j hj
    have e1 : vp_V ((List.range (nN ci)).map (fun k => if ft ci k = 2 then Value.null else if ft ci k = 1 then .long 0 else .int 0)) j = (if ft ci j = 2 then Value.null else if ft ci j = 1 then .long 0 else .int 0) := by
      unfold vp_V
      rw [List.getD_eq_getElem?_getD]
      simp [List.getElem?_range hj]
    rw [e1]
    rcases ft_ty ci hci j hj with ⟨q, hty⟩ | ⟨q, hty⟩ | ⟨q, hty⟩ | ⟨q, hty⟩
    · rw [q, hty]; rfl
    · rw [q, hty]; rfl
    · rw [q, hty]; rfl
    · rw [q, if_pos rfl]
      cases ht : tyT ci j <;> rw [ht] at hty <;> first | rfl | (exact absurd hty (by decide))
  · intro q H1 hP hD hS
    have e2 : ∀ q, entE cA E (sAlloc σ ci (nN ci)) (fun c => if c = σ.1 then q else ad c) σ.1 = .inr (ci, (List.range (nN ci)).map (fun k => if ft ci k = 2 then Value.null else if ft ci k = 1 then .long 0 else .int 0)) := by
      intro q
      rw [entE_obj (ci := ci) (by show (if σ.1 = σ.1 then (ci, nN ci) else _).1 = ci; rw [if_pos rfl]) hci]
      refine congrArg (fun z => Sum.inr (ci, z)) (List.map_congr_left (fun k _ => ?_))
      unfold fval
      have e3 : (sAlloc σ ci (nN ci)).2.2.2.1 σ.1 k = -1 := if_pos rfl
      have e4 : (sAlloc σ ci (nN ci)).2.2.2.2 σ.1 k = 0 := if_pos rfl
      rw [e3, e4]
      rfl
    rw [← e2 q, ← wsO_alloc hok] at hP hD
    exact kk q H1 hP hD hS ho
theorem lw_con {σ1 : Sg} {y j d f pc1 idx : Nat} {L1 S1 : List AV} (S : CallFix p m c code 7 s #[Value.ref b] tw RL) (hEV : EV G cA E A s s.heap) (hA : ∀ q, s.heap.size ≤ q → A q) (hS : va_S A s.heap H locs) (hP : va_P G vCl (wsO cA E σ ad) H) (hD : va_D A (wsO cA E σ ad)) (hok : okS σ) (hj : j < σ.1) (hf : run f d y 0 (entL y [(2, (j : Int))]) [] σ = some (pc1, L1, S1, σ1)) (hr : retV y pc1 S1 = some []) (hy : y < nY) (hin : isIn y = true) (ht : (mi y).2.1 = [2]) (hlink : Cond.methodLink RL idx (yn y) ∈ lw_tbl) (hsize : ls.size = 7) (hcat : (rest.map fun v => v.category).sum ≤ 8) (hdg : decode code pc = .ok (.invokespecial idx, 3)) (hd : d ≤ 100) (hc : cells + (σ1.1 - σ.1) ≤ 601024) (hs : slots + (σ1.2.1 - σ.2.1) ≤ 7293034)
    (kk : ∀ (ad1 : Nat → Nat) (H1 : Heap) (locs1 : List Loc), (∀ c, c < σ.1 → ad1 c = ad c) → va_P G vCl (wsO cA E σ1 ad1) H1 → va_D A (wsO cA E σ1 ad1) → okS σ1 → va_S A s.heap H1 locs1 → W p l e room_1 s m #[Value.ref b] below meth c H1 locs1 (cells + (σ1.1 - σ.1)) (slots + (σ1.2.1 - σ.2.1)) Q (F0 m (pc + 3) ls rest)) : W p l e room_1 s m #[Value.ref b] below meth c H locs cells slots Q (F0 m pc ls (.ref (ad j) :: rest)) := by
  have hts := S.2.2.2.2
  have hM := met_of (snd_all l f) hf hr (by rw [ht]; rfl) G cA E A ad hok (fun q hq => by
    rw [List.mem_singleton.mp hq]
    show (j : Int) < ((σ.1 : Nat) : Int)
    omega)
  obtain ⟨yp1, yp2, yp3, yp4⟩ := y_plain y hy
  obtain ⟨n1, n2⟩ := y_in y hy hin
  have hst := in_nst y hy hin
  have h9 := (y_cls y hy).2.1
  have h11 := in_cls y hy hin
  have hini : (Cond.initialized (yn y).cls).before #[Value.ref b] s = true := by
    rw [yp1]
    exact hts _ (tw_of (in_ci (mi y).1 (by simp; omega)) rfl)
  have hde : (parseMethodDescriptor (yn y).desc).map (fun d => d.parameters.length) = some 0 := by
    have := y_desc y hy
    rw [hst, ht] at this
    exact this
  have hcb : CallB room_1 s #[Value.ref b] RL idx (yn y) (bc y) (mL y) (rt y) (wsM y) (rmM d (σ1.1 - σ.1) (σ1.2.1 - σ.2.1)) (σ1.1 - σ.1) (σ1.2.1 - σ.2.1) 0 := by
    refine callB_of 0 hts (wsM_good hy) rfl rfl rfl hini (hts _ (tw_of hlink rfl)) ⟨yp3, yp4, hde⟩ ⟨?_, ?_⟩
    · show d + 1 + 1 ≤ 2048
      omega
    · show 8 + (mL y + 11) + (28 * d + 60) ≤ 84000
      omega
  rw [n2] at hcb
  have hrn := va_runI (R := room_1) (l := l) (e := e) (below := below) (meth := meth) (H := H) (locs := locs) (cells := cells) (slots := slots) (As := []) (b := ad j) (rest := rest) (g := F0 m pc ls (.ref (ad j) :: rest)) S hM ⟨hcb, n1, hts _ (tw_of (in_im y (iAll_in y hy hst)) rfl)⟩ ⟨PcM.blind, fun U hU hW => ⟨by rw [List.map_cons, cv_ref]; rfl, by rw [hU]; exact (hEV.kept hS.2.1).moved hW, by rw [hU]; exact fun q hq => hA q (Nat.le_trans hS.1 hq), by rw [hU]; exact hP, hD⟩⟩ rfl rfl hsize rfl (lv_room hcat) hdg ⟨hc, hs⟩
  intro T hT X
  obtain ⟨vv, st₀, tt, T', L9, h0, X', hL, e1, e2, ⟨⟨ad1, hext, hv, hP1, hD1, hF⟩, hok1, -⟩, st⟩ := hrn T hT X
  have hv : vv = none := by cases hv; rfl
  subst hv
  rw [← e1] at hP1
  obtain ⟨k1, k2, k3⟩ := vx_keep (free := A) h0 e1 hS (fun _ _ h => h) (fun _ h => h) hL hF
  obtain ⟨t2, a1, b1⟩ := kk ad1 T'.heap (locs ++ L9) hext hP1 hD1 hok1 k3 T' rfl X'
  exact ⟨t2, st t2 a1, b1⟩
end STA
theorem okS_0 : okS sg0 := fun c hc => absurd hc (Nat.not_lt_zero c)
theorem wsO_0 {cA : Nat → ClassId} {E : EE} {ad : Nat → Nat} : wsO cA E sg0 ad = [] := rfl
theorem no_tr {l : Launch} (h : l.flags = flags0) : l.stackTraces = false := by
  unfold Launch.stackTraces
  rw [h]
  decide +kernel
set_option maxRecDepth 100000 in
theorem whole_start {p : Program} {e : Env} {s : State} {m : MethodId} {below : List Frame} {meth : Method} {c : Code} (l : Launch) (hflags : l.flags = flags0) {b L : Nat} {xs : Nat → Int32} (hL : L ≤ 2048) (C0 : lw_At p s m meth c b L xs) : W p l e room_1 s m #[Value.ref b] below meth c s.heap [] 0 0 (lw_Z below #[Value.ref b] s) (entryFrame m ([Value.ref b] : List Value).toArray 7) := by
  obtain ⟨hx, hb, hr, hml, hown, htsA, hX, hbl, hlocks, hgv⟩ := C0
  have hown : s.vm.findClass RL = some m.cls := hown
  have hg : ∀ w ∈ FL, w.before #[Value.ref b] s = true := flat_of_before _ hgv
  obtain ⟨A, hAe⟩ : ∃ A : Nat → Prop, A = fun q => s.heap.size ≤ q := ⟨_, rfl⟩
  have hA1 : ∀ a : Nat, a < s.heap.size → ¬ A a := by rw [hAe]; exact fun a h => Nat.not_le.mpr h
  have hA : ∀ q, s.heap.size ≤ q → A q := by rw [hAe]; exact fun _ h => h
  have hAs : ∀ q, A q → s.heap.size ≤ q := by rw [hAe]; exact fun _ h => h
  obtain ⟨G, cA, E, hEV⟩ := gv_EV hg htsA hA1
  have hXE := gv_XE hg htsA hA1
  have hNC := gv_NC hg
  have hts : ∀ w ∈ tw, w.before #[Value.ref b] s = true := fun w hw => htsA w (List.mem_filter.mp hw).1
  have hl0 := no_tr hflags
  have C : LC p l s m c b L xs G cA E A := ⟨hx, hb, hml, hown, hts, hX, hbl, hA1 b hbl, hEV, hXE, hNC, hA, hl0⟩
  obtain ⟨pc1, pc2, L1, S1, L2, S2, σ1, σ2, h1, r1, n1, h2, r2, hcS, hcV⟩ := con_out
  have hf1 : run 40000 20 171 0 (entL 171 [(2, ((0 : Nat) : Int))]) [] sgA = some (pc1, L1, S1, σ1) := h1
  have hf2 : run 40000 20 181 0 (entL 181 [(2, ((38 : Nat) : Int))]) [] (sAlloc σ1 10 82) = some (pc2, L2, S2, σ2) := h2
  have g1 : 1 ≤ σ1.1 ∧ 8 ≤ σ1.2.1 := run_grow _ _ _ _ _ _ _ _ hf1
  have g2 : σ1.1 + 1 ≤ σ2.1 ∧ σ1.2.1 + 82 ≤ σ2.2.1 := run_grow _ _ _ _ _ _ _ _ hf2
  obtain ⟨c1, c2, -⟩ := chkS_out hcS
  have c3 : σ2.2.1 = 112443 := c2
  have z1 : sgA.1 = 1 := rfl
  have z2 : sgA.2.1 = 8 := rfl
  have z3 : (sAlloc σ1 10 82).1 = σ1.1 + 1 := rfl
  have z4 : (sAlloc σ1 10 82).2.1 = σ1.2.1 + 82 := rfl
  have hl := lv_entry ([.ref b] : List Value) (n := 7) (Nat.le_of_ble_eq_true rfl)
  rw [lg_entry_eq]
  generalize (lg_sl ([.ref b] : List Value) ++ List.replicate (7 - (lg_sl ([.ref b] : List Value)).length) Slot.unset).toArray = ls at hl ⊢
  have hl : lv_has ls 7 [(0, .ref b)] := hl
  refine lw_new (σ := sg0) (cA := cA) (E := E) (ad := fun _ => 0) (ci := 9) (idx := 8) hx hb hown hts kl_8 hEV.1 (by rw [wsO_0]; exact fun k q h => by simp at h) (by rw [wsO_0]; exact ⟨fun i j p q h => by simp at h, fun k q h => by simp at h⟩) va_S.rf hA okS_0 (by decide) (Nat.le_of_ble_eq_true rfl) (Nat.le_of_ble_eq_true rfl) (by decide +kernel : decode code 0 = .ok (.new 8, 3)) (fun q0 H1 hP1 hD1 hS1 ho1 => ?_)
  obtain ⟨ad0, e0⟩ : ∃ ad0 : Nat → Nat, ad0 = (fun c => if c = sg0.1 then q0 else (fun _ => 0) c) := ⟨_, rfl⟩
  have q0e : ad0 0 = q0 := by rw [e0]; exact if_pos rfl
  have eA : sAlloc sg0 9 (nN 9) = sgA := rfl
  rw [← e0, eA] at hP1 hD1
  rw [eA] at ho1
  rw [← q0e]
  refine lv_dup hx hb (by decide +kernel : decode code 3 = .ok (.dup, 1)) rfl ?_
  refine lw_con (σ := sgA) (ad := ad0) (j := 0) (y := 171) (rest := [.ref (ad0 0)]) ⟨hx, hb, hml, hown, hts⟩ hEV hA hS1 hP1 hD1 ho1 (by decide) hf1 r1 (by decide) rfl rfl kl_37 hl.1 (by show 1 + 0 ≤ 8; decide) (by decide +kernel : decode code 4 = .ok (.invokespecial 37, 3)) (by decide) (by omega) (by show 0 + 8 + _ ≤ _; omega) (fun ad1 H2 locs2 hext1 hP2 hD2 ho2 hS2 => ?_)
  rw [← hext1 0 (by decide)]
  refine lv_astore_n (lv' := [(1, .ref (ad1 0)), (0, .ref b)]) hx hb (by decide +kernel : decode code 7 = .ok (.astore_n 1, 1)) rfl hl (by decide) rfl (fun ls hl => ?_)
  refine lw_new (σ := σ1) (ad := ad1) (ci := 10) (idx := 38) hx hb hown hts kl_38 hEV.1 hP2 hD2 hS2 hA ho2 (by decide) (by omega) (by show 0 + 8 + _ + 82 ≤ _; omega) (by decide +kernel : decode code 8 = .ok (.new 38, 3)) (fun q1 H3 hP3 hD3 hS3 ho3 => ?_)
  obtain ⟨ad2, e2⟩ : ∃ ad2 : Nat → Nat, ad2 = (fun c => if c = σ1.1 then q1 else ad1 c) := ⟨_, rfl⟩
  have q1e : ad2 38 = q1 := by rw [e2]; show (if 38 = σ1.1 then q1 else ad1 38) = q1; rw [n1]; exact if_pos rfl
  have q0f : ad2 0 = ad1 0 := by rw [e2]; show (if 0 = σ1.1 then q1 else ad1 0) = ad1 0; rw [n1]; exact if_neg (by decide)
  have eB : sAlloc σ1 10 (nN 10) = sAlloc σ1 10 82 := rfl
  rw [← e2, eB] at hP3 hD3
  rw [eB] at ho3
  rw [← q1e]
  refine lv_dup hx hb (by decide +kernel : decode code 11 = .ok (.dup, 1)) rfl ?_
  refine lw_con (σ := sAlloc σ1 10 82) (ad := ad2) (j := 38) (y := 181) (rest := [.ref (ad2 38)]) ⟨hx, hb, hml, hown, hts⟩ hEV hA hS3 hP3 hD3 ho3 (by rw [z3, n1]; decide) hf2 r2 (by decide) rfl rfl kl_40 hl.1 (by show 1 + 0 ≤ 8; decide) (by decide +kernel : decode code 12 = .ok (.invokespecial 40, 3)) (by decide) (by omega) (by show 0 + 8 + _ + 82 + _ ≤ _; omega) (fun ad3 H4 locs4 hext2 hP4 hD4 ho4 hS4 => ?_)
  have x38 : ad3 38 = ad2 38 := hext2 38 (by rw [z3, n1]; decide)
  have x0 : ad3 0 = ad1 0 := (hext2 0 (by rw [z3, n1]; decide)).trans q0f
  rw [← x38]
  rw [← x0] at hl
  refine W.widen (k := 100) (n := 200000) (by omega) (by show 0 + 8 + _ + 82 + _ ≤ _; omega) ?_
  refine lv_astore_n (lv' := [(2, .ref (ad3 38)), (1, .ref (ad3 0)), (0, .ref b)]) hx hb (by decide +kernel : decode code 15 = .ok (.astore_n 2, 1)) rfl hl (by decide) rfl (fun ls hl => ?_)
  rw [wsO_sg hcS] at hP4 hD4
  refine lv_iconst (v := 1) hx hb (by decide +kernel : decode code 16 = .ok (.iconst 1, 1)) (by decide) ?_
  refine va_newa (D := G) (cl := vCl) (atype := .long) (ty := .long) (N' := 1) (a0 := (1, .inr (.inl (fun _ => 0)))) hx hb (hts _ (tw_of (in_at 3 (by decide)) rfl)) rfl hEV.1 hP4 hD4 hS4 hA (fun _ => rfl) (by decide) (by decide) (by decide) (Nat.le_of_ble_eq_true rfl) (Nat.le_of_ble_eq_true rfl) (by decide +kernel : decode code 17 = .ok (.newarray .long, 2)) ?_
  intro o cB H5 hK5 hP5 hD5 hS5
  have ec : cB = cA 3 := by
    have k1 : va_RA s cB .long := (hK5.2 (aTys cA).length (cB, .long) (by simp)).2
    have k2 : va_RA s (cA 3) .long := (hEV.1.2 3 (cA 3, .long) rfl).2
    exact Option.some.inj ((va_nm_long k1).symm.trans (va_nm_long k2))
  rw [ec] at hP5 hD5
  refine lv_astore_n (lv' := [(3, .ref o), (2, .ref (ad3 38)), (1, .ref (ad3 0)), (0, .ref b)]) hx hb (by decide +kernel : decode code 19 = .ok (.astore_n 3, 1)) rfl hl (by decide) rfl (fun ls hl => ?_)
  refine lv_iconst (v := 0) hx hb (by decide +kernel : decode code 20 = .ok (.iconst 0, 1)) (by decide) ?_
  refine lv_istore (lv' := [(4, .int 0), (3, .ref o), (2, .ref (ad3 38)), (1, .ref (ad3 0)), (0, .ref b)]) hx hb (by decide +kernel : decode code 21 = .ok (.istore 4, 2)) hl (by decide) rfl (fun ls hl => ?_)
  have hl9 : lv_has ls 7 (lvL b ad3 o (nI 0)) := by
    rw [nI_0]
    exact lv_sub hl [4, 3, 2, 1, 0] rfl
  exact law_loop C hr hlocks hAs hL 512 0 (-1) σ2.2.2.2.2 (fun _ => 0) H5 locs4 ls _ _ (Nat.zero_le _) (by omega) (Nat.le_of_ble_eq_true rfl) (Nat.le_of_ble_eq_true rfl) ⟨⟨hP5, hD5, okS_sg hcS ho4⟩, INV_0 hcS hcV ho4, hS5, hl9⟩
