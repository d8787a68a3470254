/-! Every run of the small machine is one of the JVM's. -/
theorem retV_len {y pc : Nat} {S rv : List AV} (h : retV y pc S = some rv) : rv.length ≤ 1 := by
  unfold retV at h
  cases hlk : lk (cod y) pc with
  | none => rw [hlk] at h; cases h
  | some z =>
    obtain ⟨i, r0⟩ := z
    rw [hlk] at h
    dsimp only at h
    cases i
    case ireturn =>
      replace h : retI (mi y).2.2.1 S = some rv := h
      unfold retI at h
      split at h
      · rename_i q
        cases hb : Nat.beq q.1 0 with
        | false => rw [hb] at h; cases h
        | true =>
          rw [hb] at h
          dsimp only [cond_true] at h
          repeat' (first | (cases h; exact Nat.le_refl 1) | (cases h; done) | split at h)
      · cases h
    case lreturn =>
      dsimp only at h
      split at h
      · rename_i q
        cases hb : (Nat.beq q.1 1 && Nat.beq (mi y).2.2.1 1) with
        | false => rw [hb] at h; cases h
        | true => rw [hb] at h; cases h; exact Nat.le_refl 1
      · cases h
    case return_ =>
      dsimp only at h
      split at h
      · cases hb : Nat.beq (mi y).2.2.1 9 with
        | false => rw [hb] at h; cases h
        | true => rw [hb] at h; cases h; exact Nat.zero_le 1
      · cases h
    all_goals exact nomatch (show (none : Option (List AV)) = some _ from h)
theorem headL {α β : Type} {f : α → β} {rv : List α} (h : rv.length ≤ 1) : ((rv.map f).head?).toList = rv.map f := by
  match rv, h with
  | [], _ => rfl
  | [_], _ => rfl
  | _ :: _ :: _, h => exact absurd h (by simp)
set_option maxRecDepth 100000 in
theorem y_rcv : ∀ y, y < nY → isSt y = false → ((mi y).2.1.head? = some 2 ∧ ((mi y).1 < 11 ∨ (mi y).1 = 11)) := by decide +kernel
set_option maxRecDepth 100000 in
theorem in_nst : ∀ y, y < nY → isIn y = true → isSt y = false := by decide +kernel
set_option maxRecDepth 100000 in
theorem in_cls : ∀ y, y < nY → isIn y = true → (mi y).1 < 11 := by decide +kernel
theorem wsM_good {y : Nat} (hy : y < nY) : GoodIn tw (wsM y) := by
  intro w hw
  rcases List.mem_cons.mp hw with h | h
  · rw [h]
    exact ⟨tw_of (in_cd y (yAl2_in y hy)) rfl, good_of_word rfl⟩
  · exact ⟨h, good_of_word (List.mem_filter.mp h).2⟩
section SNA
variable {p : Program} {l : Launch} {e : Env} {R : Room} {s : State} {m : MethodId} {args : Array Value} {below : List Frame} {meth : Method} {c : Code} {H : Heap} {locs : List Loc} {cells slots : Nat} {Q : State → Prop} {G : va_G} {cA : Nat → ClassId} {E : EE} {B0 : Nat → Prop} {y d nL : Nat} {ad : Nat → Nat} {σ : Sg} {ls : Array Slot} {L S : List AV} {pc : Nat}
theorem call_go {σ1 : Sg} {rv S1 : List AV} {a : Array Value} {st0 : List Value} (hr : va_Run p l e R s m args below meth c H locs cells slots (σ1.1 - σ.1) (σ1.2.1 - σ.2.1) (F0 m pc ls st0) (S1.map (cv E ad)) (fun st o t => QcM G cA E B0 ad σ rv σ1 a st o t ∧ okS σ1 ∧ ∀ q ∈ rv, okA σ1.1 q) B0)
    (hR : REL G cA E B0 s.heap nL ad σ H locs ls L S) (hn : σ.1 ≤ σ1.1) (hS1 : ∀ q ∈ S1, okA σ.1 q) (hrv : rv.length ≤ 1) (kk : KT p l e R s m args below meth c Q G cA E B0 nL cells slots ad σ (pc + 3) L (rv ++ S1) σ1) : W p l e R s m args below meth c H locs cells slots Q (F0 m pc ls st0) := by
  intro T hT X
  obtain ⟨v, st₀, t, T', L9, h0, X', hL, e1, e2, ⟨⟨ad1, hext, hv, hP, hD, hF⟩, hok, hro⟩, st⟩ := hr T hT X
  have hv : v = (rv.map (cv E ad1)).head? := by cases hv; rfl
  subst hv
  rw [← e1] at hP
  have hS9 : va_S B0 s.heap T'.heap (locs ++ L9) := by
    obtain ⟨z1, z2⟩ := hF
    rw [h0, ← e1] at z1 z2
    refine ⟨Nat.le_trans hR.2.2.1.1 z1, fun q h1 h2 => ?_, fun q hq => ?_⟩
    · rw [z2 q (Nat.lt_of_lt_of_le h1 hR.2.2.1.1) h2]
      exact hR.2.2.1.2.1 q h1 h2
    · rcases List.mem_append.mp hq with h | h
      · exact hR.2.2.1.2.2 q h
      · exact hL q h
  have h9 := kk ad1 T'.heap (locs ++ L9) ls hext ⟨hP, hD, hS9, hR.2.2.2.1.ext hext hR.2.2.2.2.2.1, hok, fun q hq => okA_mono hn (hR.2.2.2.2.2.1 q hq), fun q hq => (List.mem_append.mp hq).elim (hro q) (fun h => okA_mono hn (hS1 q h))⟩
  rw [List.map_append, map_ext hext hS1, ← headL hrv] at h9
  obtain ⟨t2, a1, b1⟩ := h9 T' rfl X'
  exact ⟨t2, st t2 a1, b1⟩
theorem pre_U {as : List AV} {v : Array Value} (C : CX p R s m args meth c y d G cA E B0) (hR : REL G cA E B0 s.heap nL ad σ H locs ls L S) (hv : v = (as.map (cv E ad)).toArray) {U : State} (hU : U.heap = H) (hW : s.WarmedH U.vm) : PcM G cA E B0 ad as σ v U := by
  obtain ⟨hx, hb, hml, hown, hts, hin, hEV, hB0, hfr, hlo⟩ := C
  refine ⟨hv, ?_, ?_, ?_, hR.2.1⟩
  · rw [hU]
    exact (hEV.kept hR.2.2.1.2.1).moved hW
  · rw [hU]
    exact fun q hq => hB0 q (Nat.le_trans hR.2.2.1.1 hq)
  · rw [hU]
    exact hR.1
end SNA
theorem callee_of {i : Instr} {r : List Int} {y : Nat} (h : calleeOf i r = some y) : r = [.ofNat y] ∧ ((∃ x, i = .invokevirtual x) ∨ (∃ x, i = .invokespecial x) ∨ ∃ x, i = .invokestatic x) := by
  unfold calleeOf at h
  split at h
  · split at h
    · cases h; exact ⟨rfl, Or.inl ⟨_, rfl⟩⟩
    · cases h
  · split at h
    · cases h; exact ⟨rfl, Or.inr (Or.inl ⟨_, rfl⟩)⟩
    · cases h
  · split at h
    · cases h; exact ⟨rfl, Or.inr (Or.inr ⟨_, rfl⟩)⟩
    · cases h
  · cases h
theorem snd_all (l : Launch) : ∀ f, SND l f := by
  intro f
  induction f with
  | zero => intro d y pc L S σ pc1 L1 S1 σ1 h; cases h
  | succ f ih =>
    intro d y pc L S σ pc1 L1 S1 σ1 h p e R s m args below meth c H locs cells slots Q G cA E B0 ad ls C hR hcc hcs kk
    rw [run_succ] at h
    cases h1 : lk (cod y) pc with
    | none => rw [h1] at h; cases h
    | some z =>
      obtain ⟨i, rr⟩ := z
      rw [h1] at h
      dsimp only at h
      cases h2 : isStop i rr with
      | true =>
        rw [h2] at h
        cases h
        exact kk.same hR hR.2.2.2.1 hR.2.2.2.2.2.1 hR.2.2.2.2.2.2
      | false =>
        rw [h2] at h
        dsimp only at h
        cases h3 : calleeOf i rr with
        | none =>
          rw [h3] at h
          dsimp only at h
          cases h4 : stp nS sB i rr pc L S σ with
          | none => rw [h4] at h; cases h
          | some q =>
            obtain ⟨pc2, L2, S2, σ2⟩ := q
            rw [h4] at h
            have a1 := stp_grow i rr pc L S σ _ h4
            have a2 := run_grow _ _ _ _ _ _ _ _ h
            dsimp only at a1 a2 h
            refine stp_snd C (lk_mem h1) h4 rfl hR (by omega) (by omega) ?_
            intro ad1 H1 locs1 ls1 hext hR1
            refine ih d y pc2 L2 S2 σ2 pc1 L1 S1 σ1 h p e R s m args below meth c H1 locs1 _ _ Q G cA E B0 ad1 ls1 C hR1 (by omega) (by omega) ?_
            intro ad2 H2 locs2 ls2 hext2 hR2
            have h9 := kk ad2 H2 locs2 ls2 (fun c hc => (hext2 c (by omega)).trans (hext c hc)) hR2
            have e1 : cells + (σ2.1 - σ.1) + (σ1.1 - σ2.1) = cells + (σ1.1 - σ.1) := by omega
            have e2 : slots + (σ2.2.1 - σ.2.1) + (σ1.2.1 - σ2.2.1) = slots + (σ1.2.1 - σ.2.1) := by omega
            rw [e1, e2]
            exact h9
        | some y2 =>
          rw [h3] at h
          dsimp only at h
          cases d with
          | zero => cases h
          | succ d =>
            dsimp only at h
            cases h5 : popA (mi y2).2.1.reverse S [] with
            | none => rw [h5] at h; cases h
            | some q =>
              obtain ⟨as, S2⟩ := q
              rw [h5] at h
              dsimp only at h
              cases h6 : (recvOk y2 as σ && decide (catS S2 ≤ 8)) with
              | false => rw [h6] at h; cases h
              | true =>
                rw [h6] at h
                dsimp only at h
                cases h7 : run f d y2 0 (entL y2 as) [] σ with
                | none => rw [h7] at h; cases h
                | some q =>
                  obtain ⟨pc3, L3, S3, σ2⟩ := q
                  rw [h7] at h
                  dsimp only at h
                  cases h8 : retV y2 pc3 S3 with
                  | none => rw [h8] at h; cases h
                  | some rv =>
                    rw [h8] at h
                    dsimp only at h
                    have a1 := run_grow _ _ _ _ _ _ _ _ h7
                    have a2 := run_grow _ _ _ _ _ _ _ _ h
                    dsimp only at a1 a2
                    obtain ⟨bs, b1, b2, b3⟩ := popA_spec h5
                    rw [List.append_nil] at b2
                    subst b2
                    rw [List.reverse_reverse] at b1
                    subst b3
                    have hSok := hR.2.2.2.2.2.2
                    have hoa : ∀ q ∈ as, okA σ.1 q := fun q hq => hSok q (List.mem_append_left _ (List.mem_reverse.mpr hq))
                    have hS2 : ∀ q ∈ S2, okA σ.1 q := fun q hq => hSok q (List.mem_append_right _ hq)
                    have hM := met_of ih h7 h8 b1 G cA E B0 ad hR.2.2.2.2.1 hoa
                    have hrv := retV_len h8
                    have hy2 : y2 < nY := by
                      unfold retV at h8
                      cases hz : lk (cod y2) pc3 with
                      | none => rw [hz] at h8; cases h8
                      | some z => obtain ⟨i9, r9⟩ := z; exact y_lt hz
                    rw [Bool.and_eq_true, decide_eq_true_eq] at h6
                    have he := lk_mem h1
                    have hok := ok_all he
                    have hok' := (Bool.and_eq_true _ _).mp hok.2
                    have hd : decode (bc y) pc = .ok (i, lenI i rr) := of_decide_eq_true hok'.1
                    have hres : resB (mi y).1 (isIn y) pc i rr = true := hok'.2
                    obtain ⟨hx, hb, hml, hown, hts, hin, hEV, hB0, hfr, hlo⟩ := id C
                    obtain ⟨yp1, yp2, yp3, yp4⟩ := y_plain y2 hy2
                    obtain ⟨yc1, yc2, -⟩ := y_cls y2 hy2
                    have hini : (Cond.initialized (yn y2).cls).before args s = true := by
                      rw [yp1]
                      exact hts _ (tw_of (in_ci (mi y2).1 (by simp; omega)) rfl)
                    have hcat : (((S2.map (cv E ad)).map fun v => v.category)).sum ≤ 8 := by rw [catS_eq hEV.2.2.2.2]; exact h6.2
                    have hgo : ∀ (a : Array Value) (st0 : List Value), va_Run p l e R s m args below meth c H locs cells slots (σ2.1 - σ.1) (σ2.2.1 - σ.2.1) (F0 m pc ls st0) (S2.map (cv E ad)) (fun st o t => QcM G cA E B0 ad σ rv σ2 a st o t ∧ okS σ2 ∧ ∀ q ∈ rv, okA σ2.1 q) B0 → W p l e R s m args below meth c H locs cells slots Q (F0 m pc ls st0) := by
                      intro a st0 hr
                      refine call_go hr hR a1.1 hS2 hrv ?_
                      intro ad1 H1 locs1 ls1 hext hR1
                      refine ih (d + 1) y (pc + 3) L (rv ++ S2) σ2 pc1 L1 S1 σ1 h p e R s m args below meth c H1 locs1 _ _ Q G cA E B0 ad1 ls1 C hR1 (by omega) (by omega) ?_
                      intro ad2 H2 locs2 ls2 hext2 hR2
                      have h9 := kk ad2 H2 locs2 ls2 (fun c hc => (hext2 c (by omega)).trans (hext c hc)) hR2
                      have e1 : cells + (σ2.1 - σ.1) + (σ1.1 - σ2.1) = cells + (σ1.1 - σ.1) := by omega
                      have e2 : slots + (σ2.2.1 - σ.2.1) + (σ1.2.1 - σ2.2.1) = slots + (σ1.2.1 - σ.2.1) := by omega
                      rw [e1, e2]
                      exact h9
                    have hCB : ∀ (idx n : Nat), ((mi y).1, idx, y2) ∈ MT → n = (mi y2).2.1.length - (if isSt y2 then 0 else 1) → CallB R s args (Rn (mi y).1) idx (yn y2) (bc y2) (mL y2) (rt y2) (wsM y2) (rmM d (σ2.1 - σ.1) (σ2.2.1 - σ.2.1)) (σ2.1 - σ.1) (σ2.2.1 - σ.2.1) n := by
                      intro idx n hMT hn
                      refine callB_of n hts (wsM_good hy2) rfl rfl rfl hini (hts _ (tw_of (in_MT _ hMT) rfl)) ⟨yp3, yp4, by rw [hn]; exact y_desc y2 hy2⟩ ⟨?_, ?_⟩
                      · show d + 1 + 1 ≤ R.frames
                        exact hfr
                      · show 8 + (mL y2 + 11) + (28 * d + 60) ≤ R.locals
                        omega
                    have hsz : (F0 m pc ls ([] : List Value)).locals.size = mL y := hR.2.2.2.1.1
                    obtain ⟨er, hi⟩ := callee_of h3
                    subst er
                    rcases hi with ⟨idx, rfl⟩ | ⟨idx, rfl⟩ | ⟨idx, rfl⟩
                    · have hres' : ((decide (idx < 10000 ∧ y2 < 1000) && hasN MTn (ecM ((mi y).1, idx, y2))) && !isSt y2 && !isIn y2) = true := hres
                      rw [Bool.and_eq_true, Bool.and_eq_true, Bool.and_eq_true, decide_eq_true_eq] at hres'
                      obtain ⟨⟨⟨r1, r2⟩, r3⟩, r4⟩ := hres'
                      have hst : isSt y2 = false := by simpa using r3
                      have hnin : isIn y2 = false := by simpa using r4
                      obtain ⟨hhd, hcl⟩ := y_rcv y2 hy2 hst
                      cases as with
                      | nil => rw [← b1] at hhd; cases hhd
                      | cons q as =>
                        obtain ⟨t, a⟩ := q
                        rw [← b1] at hhd
                        have et : t = 2 := Option.some.inj hhd
                        subst et
                        have hrc : recvOk y2 ((2, a) :: as) σ = true := h6.1
                        unfold recvOk at hrc
                        have hst' : (mi y2).2.2.2.1 = false := hst
                        rw [hst', Bool.false_or] at hrc
                        dsimp only at hrc
                        have hrecv : ∃ b, cvR E ad a = .ref b ∧ ∃ cellB : Cell, H[b]? = some cellB ∧ cellB.vm.isStatics = false ∧ s.vm.findClass (Rn (mi y2).1) = some cellB.cls := by
                          rcases hcl with hc | hc
                          · have e9 : Nat.beq (mi y2).1 11 = false := by
                              cases hz : Nat.beq (mi y2).1 11 with
                              | false => rfl
                              | true => exact absurd (Nat.eq_of_beq_eq_true hz) (by omega)
                            rw [e9] at hrc
                            obtain ⟨j, rfl, hj, hsh⟩ := isC_spec hrc
                            refine ⟨ad j, (cv_ref : cv E ad (2, (j : Int)) = .ref (ad j)), ?_⟩
                            exact va_recv hEV.1 hR.1 (vCl_at hc) (q0 := j) (by rw [wsO_at hj, entE_obj hsh hc])
                          · have e9 : Nat.beq (mi y2).1 11 = true := by rw [hc]; rfl
                            rw [e9] at hrc
                            dsimp only [cond_true] at hrc
                            cases hsx : strOf nS a with
                            | none => rw [hsx] at hrc; cases hrc
                            | some j =>
                              obtain ⟨g1, g2⟩ := cvR_str (E := E) (ad := ad) hsx
                              refine ⟨E.1 j, g1, ?_⟩
                              obtain ⟨cell, k1, k2, k3, -⟩ := (hEV.2.1 j g2).1.kept hR.2.2.1.2.1
                              rw [hc]
                              exact ⟨cell, k1, k2, k3⟩
                        obtain ⟨b, eb, hcell⟩ := hrecv
                        have est : (((2, a) :: as).reverse ++ S2).map (cv E ad) = (as.map (cv E ad)).reverse ++ .ref b :: S2.map (cv E ad) := by
                          rw [List.map_append, List.map_reverse, List.map_cons, List.reverse_cons, List.append_assoc]
                          show _ ++ ([cvR E ad a] ++ _) = _
                          rw [eb]
                          rfl
                        have hlen : as.length = (mi y2).2.1.length - (if isSt y2 then 0 else 1) := by
                          rw [← b1, hst]
                          simp
                        rw [est]
                        refine hgo (Value.ref b :: as.map (cv E ad)).toArray _ (va_runV (C := Rn (mi y2).1) (As := as.map (cv E ad)) ⟨hx, hb, hml, hown, hts⟩ hM ⟨hCB idx as.length (MT_of r1 r2) hlen, hts _ (tw_of (in_im y2 (iAll_in y2 hy2 hst)) rfl), hts _ (tw_of (in_se y2 (sAll_in y2 hy2 hst hnin)) rfl)⟩ ⟨PcM.blind, hcell, fun U hU hW => pre_U C hR (by rw [List.map_cons]; show _ = (cvR E ad a :: _).toArray; rw [eb]) hU hW⟩ rfl (by simp) hR.2.2.2.1.1 rfl (lv_room hcat) hd ⟨by omega, by omega⟩)
                    · have hres' : ((decide (idx < 10000 ∧ y2 < 1000) && hasN MTn (ecM ((mi y).1, idx, y2))) && isIn y2) = true := hres
                      rw [Bool.and_eq_true, Bool.and_eq_true, decide_eq_true_eq] at hres'
                      obtain ⟨⟨r1, r2⟩, r3⟩ := hres'
                      obtain ⟨n1, n2⟩ := y_in y2 hy2 r3
                      have hst : isSt y2 = false := in_nst y2 hy2 r3
                      obtain ⟨hhd, hcl⟩ := y_rcv y2 hy2 hst
                      cases as with
                      | nil => rw [← b1] at hhd; cases hhd
                      | cons q as =>
                        obtain ⟨t, a⟩ := q
                        rw [← b1] at hhd
                        have et : t = 2 := Option.some.inj hhd
                        subst et
                        have hrc : recvOk y2 ((2, a) :: as) σ = true := h6.1
                        unfold recvOk at hrc
                        have hst' : (mi y2).2.2.2.1 = false := hst
                        rw [hst', Bool.false_or] at hrc
                        dsimp only at hrc
                        have hc11 : (mi y2).1 < 11 := in_cls y2 hy2 r3
                        have e9 : Nat.beq (mi y2).1 11 = false := by
                          cases hz : Nat.beq (mi y2).1 11 with
                          | false => rfl
                          | true => exact absurd (Nat.eq_of_beq_eq_true hz) (by omega)
                        rw [e9] at hrc
                        obtain ⟨j, rfl, hj, hsh⟩ := isC_spec hrc
                        have eb : cvR E ad (j : Int) = .ref (ad j) := (cv_ref : cv E ad (2, (j : Int)) = .ref (ad j))
                        have est : (((2, (j : Int)) :: as).reverse ++ S2).map (cv E ad) = (as.map (cv E ad)).reverse ++ .ref (ad j) :: S2.map (cv E ad) := by
                          rw [List.map_append, List.map_reverse, List.map_cons, List.reverse_cons, List.append_assoc]
                          show _ ++ ([cvR E ad (j : Int)] ++ _) = _
                          rw [eb]
                          rfl
                        have hlen : as.length = (mi y2).2.1.length - (if isSt y2 then 0 else 1) := by
                          rw [← b1, hst]
                          simp
                        have hcb := hCB idx as.length (MT_of r1 r2) hlen
                        rw [n2] at hcb
                        rw [est]
                        refine hgo (Value.ref (ad j) :: as.map (cv E ad)).toArray _ (va_runI (As := as.map (cv E ad)) ⟨hx, hb, hml, hown, hts⟩ hM ⟨hcb, n1, hts _ (tw_of (in_im y2 (iAll_in y2 hy2 hst)) rfl)⟩ ⟨PcM.blind, fun U hU hW => pre_U C hR (by rw [List.map_cons]; show _ = (cvR E ad (j : Int) :: _).toArray; rw [eb]) hU hW⟩ rfl (by simp) hR.2.2.2.1.1 rfl (lv_room hcat) hd ⟨by omega, by omega⟩)
                    · have hres' : ((decide (idx < 10000 ∧ y2 < 1000) && hasN MTn (ecM ((mi y).1, idx, y2))) && isSt y2) = true := hres
                      rw [Bool.and_eq_true, Bool.and_eq_true, decide_eq_true_eq] at hres'
                      obtain ⟨⟨r1, r2⟩, r3⟩ := hres'
                      have est : (as.reverse ++ S2).map (cv E ad) = (as.map (cv E ad)).reverse ++ S2.map (cv E ad) := by
                        rw [List.map_append, List.map_reverse]
                      have hlen : as.length = (mi y2).2.1.length - (if isSt y2 then 0 else 1) := by
                        rw [← b1, r3]
                        simp
                      rw [est]
                      refine hgo (as.map (cv E ad)).toArray _ (va_runS (As := as.map (cv E ad)) ⟨hx, hb, hml, hown, hts⟩ hM ⟨hCB idx as.length (MT_of r1 r2) hlen, hts _ (tw_of (in_st y2 (tAll_in y2 hy2 r3)) rfl)⟩ ⟨PcM.blind, fun U hU hW => pre_U C hR rfl hU hW⟩ rfl (by simp) hR.2.2.2.1.1 rfl (lv_room hcat) hd ⟨by omega, by omega⟩)
