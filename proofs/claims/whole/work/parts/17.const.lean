/-! Constants, statics, fields; every instruction that is no call. Printed by wip/whole/gen/genconst.py. -/
section STC
variable {p : Program} {l : Launch} {e : Env} {R : Room} {s : State} {m : MethodId} {args : Array Value} {below : List Frame} {meth : Method} {c : Code} {H : Heap} {locs : List Loc} {cells slots : Nat} {Q : State → Prop} {G : va_G} {cA : Nat → ClassId} {E : EE} {B0 : Nat → Prop} {y d nL : Nat} {ad : Nat → Nat} {σ : Sg} {ls : Array Slot} {L S : List AV} {pc : Nat}
theorem ldcw_S {T : State} (X : Stand p l e R s m args below meth c T locs cells slots) (hexec : p.tables.exec = Jvm.exec) {own text : String} {index : Nat} {a : Addr} (hown : s.vm.findClass own = some m.cls)
    (hconst : (Cond.stringRef own index text).before args s = true) (hev : (Term.string own index).eval args s none [] s = some (.ref a)) {g : JFrame} (hg : g.method = m) (hdg : decode c.code g.pc = .ok (.ldc_w index, 3)) :
    ∀ target, Steps p.tables e below (T.setTop { g with pc := g.pc + 3, stack := .ref a :: g.stack }) target → Steps p.tables e below (T.setTop g) target := by
  obtain ⟨k, cf, i, a', hk, hcf, hcp, -, hr, hev'⟩ := Cond.stringRef_spec hown hconst
  cases hev.symm.trans hev'
  obtain ⟨k', hk', he⟩ := X.warmed.alike.2.2 _ _ hk
  have hr' : k'.resolved[index]? = some (some (.string a)) := by
    rcases X.warmed.entry hk hk' index with h | ⟨h, -⟩
    · rw [h]; exact hr
    · rw [hr] at h; cases h
  intro target hrest
  subst hg
  jvm_step X.here [hexec, hdg, ldc_w.wp_string (e := e) (s := T) (f := g) X.here.top hk' (by rw [he]; exact hcf) hcp hr']
  exact hrest
theorem lv_ldcwS {cc : ByteArray} {rest : List Value} (hexec : p.tables.exec = Jvm.exec) (hb : c.code = cc) {own tx : String} {index q : Nat} (hown : s.vm.findClass own = some m.cls) (hZ : vk_R own index tx q s) (hdg : decode cc pc = .ok (.ldc_w index, 3))
    (k : W p l e R s m args below meth c H locs cells slots Q (F0 m (pc + 3) ls (.ref q :: rest))) : W p l e R s m args below meth c H locs cells slots Q (F0 m pc ls rest) := by
  intro T hT X
  obtain ⟨t, a1, b1⟩ := k T hT X
  exact ⟨t, ldcw_S X hexec hown (text := tx) (a := q) hZ.1 hZ.2 (g := F0 m pc ls rest) rfl (by rw [hb]; exact hdg) t a1, b1⟩
theorem SR_lt {j : Nat} {q : Nat × Nat} (h : SR[j]? = some q) : j < nS := by
  have h1 := (List.getElem?_eq_some_iff.mp h).1
  have h2 : SR.length = nS := by decide
  omega
theorem st_ldc {idx : Nat} {r : List Int} {pc1 : Nat} {L1 S1 : List AV} {σ1 : Sg} (C : CX p R s m args meth c y d G cA E B0) (he : (pc, (.ldc idx : Instr), r) ∈ cod y) (h : stp nS sB (.ldc idx) r pc L S σ = some (pc1, L1, S1, σ1)) (hnL : nL = mL y) (hR : REL G cA E B0 s.heap nL ad σ H locs ls L S) (kk : KT p l e R s m args below meth c Q G cA E B0 nL cells slots ad σ pc1 L1 S1 σ1) : W p l e R s m args below meth c H locs cells slots Q (F0 m pc ls (S.map (cv E ad))) := by
  obtain ⟨hx, hb, hml, hown, hts, hin, hEV, hB0, hfr, hlo⟩ := C
  have hok := ok_all he
  have hok' := (Bool.and_eq_true _ _).mp hok.2
  have hd : decode (bc y) pc = .ok (.ldc idx, lenI (.ldc idx) r) := of_decide_eq_true hok'.1
  have hres : resB (mi y).1 (isIn y) pc (.ldc idx) r = true := hok'.2
  have hSok := hR.2.2.2.2.2.2
  unfold stp at h
  dsimp only at h
  have hr : (∃ v, r = [0, v]) ∨ (∃ v, r = [2, v]) ∨ ¬ ((∃ v, r = [0, v]) ∨ ∃ v, r = [2, v]) := by
    rcases Classical.em (∃ v, r = [0, v]) with q | q
    · exact Or.inl q
    · rcases Classical.em (∃ v, r = [2, v]) with q2 | q2
      · exact Or.inr (Or.inl q2)
      · exact Or.inr (Or.inr (fun z => z.elim q q2))
  rcases hr with ⟨v, rfl⟩ | ⟨j, rfl⟩ | hr
  · obtain ⟨hn, h⟩ := bif0_some h
    rw [Bool.and_eq_true, decide_eq_true_eq, decide_eq_true_eq] at hn
    cases h
    have hK : ((mi y).1, idx, v) ∈ KI := by
      have h1 : KI.contains ((mi y).1, idx, v) = true := hres
      simpa using h1
    exact lv_ldc hx hb hown (hts _ (tw_of (in_KI _ hK) rfl)) hd (kk.stk hR (okc (show _ ∧ _ from hn) hSok))
  · obtain ⟨hn, h⟩ := bif0_some h
    rw [decide_eq_true_eq] at hn
    cases h
    have hres' : (decide (0 ≤ j) && SR[j.toNat]? == some ((mi y).1, idx)) = true := hres
    rw [Bool.and_eq_true, beq_iff_eq] at hres'
    have hj := SR_lt hres'.2
    obtain ⟨tx, hZ⟩ := (hEV.2.1 j.toNat hj).2.2.2.2 _ hres'.2
    refine va_ldcS (tx := tx) hx hb hown hZ hd ?_
    have e1 : cvR E ad (-2 - j) = .ref (E.1 j.toNat) := by
      have e2 : (-2 - j) = (-2 - ((j.toNat : Nat) : Int)) := by omega
      rw [e2]
      exact (cvR_str (str_of hj)).1
    have h9 : W p l e R s m args below meth c H locs cells slots Q (F0 m (pc + 2) ls (cvR E ad (-2 - j) :: S.map (cv E ad))) := kk.stk hR (okc (show (-2 - j) < ((σ.1 : Nat) : Int) by omega) hSok)
    rw [e1] at h9
    exact h9
  · exfalso
    split at h
    · exact absurd (Or.inl ⟨_, rfl⟩) hr
    · exact absurd (Or.inr ⟨_, rfl⟩) hr
    · cases h
theorem st_ldc_w {idx : Nat} {r : List Int} {pc1 : Nat} {L1 S1 : List AV} {σ1 : Sg} (C : CX p R s m args meth c y d G cA E B0) (he : (pc, (.ldc_w idx : Instr), r) ∈ cod y) (h : stp nS sB (.ldc_w idx) r pc L S σ = some (pc1, L1, S1, σ1)) (hnL : nL = mL y) (hR : REL G cA E B0 s.heap nL ad σ H locs ls L S) (kk : KT p l e R s m args below meth c Q G cA E B0 nL cells slots ad σ pc1 L1 S1 σ1) : W p l e R s m args below meth c H locs cells slots Q (F0 m pc ls (S.map (cv E ad))) := by
  obtain ⟨hx, hb, hml, hown, hts, hin, hEV, hB0, hfr, hlo⟩ := C
  have hok := ok_all he
  have hok' := (Bool.and_eq_true _ _).mp hok.2
  have hd : decode (bc y) pc = .ok (.ldc_w idx, lenI (.ldc_w idx) r) := of_decide_eq_true hok'.1
  have hres : resB (mi y).1 (isIn y) pc (.ldc_w idx) r = true := hok'.2
  have hSok := hR.2.2.2.2.2.2
  unfold stp at h
  dsimp only at h
  have hr : (∃ v, r = [0, v]) ∨ (∃ v, r = [2, v]) ∨ ¬ ((∃ v, r = [0, v]) ∨ ∃ v, r = [2, v]) := by
    rcases Classical.em (∃ v, r = [0, v]) with q | q
    · exact Or.inl q
    · rcases Classical.em (∃ v, r = [2, v]) with q2 | q2
      · exact Or.inr (Or.inl q2)
      · exact Or.inr (Or.inr (fun z => z.elim q q2))
  rcases hr with ⟨v, rfl⟩ | ⟨j, rfl⟩ | hr
  · cases h
  · obtain ⟨hn, h⟩ := bif0_some h
    rw [decide_eq_true_eq] at hn
    cases h
    have hres' : (decide (0 ≤ j) && SR[j.toNat]? == some ((mi y).1, idx)) = true := hres
    rw [Bool.and_eq_true, beq_iff_eq] at hres'
    have hj := SR_lt hres'.2
    obtain ⟨tx, hZ⟩ := (hEV.2.1 j.toNat hj).2.2.2.2 _ hres'.2
    refine lv_ldcwS (tx := tx) hx hb hown hZ hd ?_
    have e1 : cvR E ad (-2 - j) = .ref (E.1 j.toNat) := by
      have e2 : (-2 - j) = (-2 - ((j.toNat : Nat) : Int)) := by omega
      rw [e2]
      exact (cvR_str (str_of hj)).1
    have h9 : W p l e R s m args below meth c H locs cells slots Q (F0 m (pc + 3) ls (cvR E ad (-2 - j) :: S.map (cv E ad))) := kk.stk hR (okc (show (-2 - j) < ((σ.1 : Nat) : Int) by omega) hSok)
    rw [e1] at h9
    exact h9
  · exfalso
    split at h
    · exact absurd (Or.inr ⟨_, rfl⟩) hr
    · cases h
theorem st_ldc2 {idx : Nat} {r : List Int} {pc1 : Nat} {L1 S1 : List AV} {σ1 : Sg} (C : CX p R s m args meth c y d G cA E B0) (he : (pc, (.ldc2_w idx : Instr), r) ∈ cod y) (h : stp nS sB (.ldc2_w idx) r pc L S σ = some (pc1, L1, S1, σ1)) (hnL : nL = mL y) (hR : REL G cA E B0 s.heap nL ad σ H locs ls L S) (kk : KT p l e R s m args below meth c Q G cA E B0 nL cells slots ad σ pc1 L1 S1 σ1) : W p l e R s m args below meth c H locs cells slots Q (F0 m pc ls (S.map (cv E ad))) := by
  obtain ⟨hx, hb, hml, hown, hts, hin, hEV, hB0, hfr, hlo⟩ := C
  have hok := ok_all he
  have hok' := (Bool.and_eq_true _ _).mp hok.2
  have hd : decode (bc y) pc = .ok (.ldc2_w idx, lenI (.ldc2_w idx) r) := of_decide_eq_true hok'.1
  have hres : resB (mi y).1 (isIn y) pc (.ldc2_w idx) r = true := hok'.2
  have hSok := hR.2.2.2.2.2.2
  unfold stp at h
  dsimp only at h
  have hr : (∃ v, r = [1, v]) ∨ ¬ ∃ v, r = [1, v] := Classical.em _
  rcases hr with ⟨v, rfl⟩ | hr
  · obtain ⟨hn, h⟩ := bif0_some h
    rw [Bool.and_eq_true, decide_eq_true_eq, decide_eq_true_eq] at hn
    cases h
    have hK : ((mi y).1, idx, v) ∈ KJ := by
      have h1 : KJ.contains ((mi y).1, idx, v) = true := hres
      simpa using h1
    exact lv_ldc2 hx hb hown (hts _ (tw_of (in_KJ _ hK) rfl)) hd (kk.stk hR (okc (show _ ∧ _ from hn) hSok))
  · exfalso
    split at h
    · exact absurd ⟨_, rfl⟩ hr
    · cases h
theorem st_getstatic {idx : Nat} {r : List Int} {pc1 : Nat} {L1 S1 : List AV} {σ1 : Sg} (C : CX p R s m args meth c y d G cA E B0) (he : (pc, (.getstatic idx : Instr), r) ∈ cod y) (h : stp nS sB (.getstatic idx) r pc L S σ = some (pc1, L1, S1, σ1)) (hnL : nL = mL y) (hR : REL G cA E B0 s.heap nL ad σ H locs ls L S) (kk : KT p l e R s m args below meth c Q G cA E B0 nL cells slots ad σ pc1 L1 S1 σ1) : W p l e R s m args below meth c H locs cells slots Q (F0 m pc ls (S.map (cv E ad))) := by
  obtain ⟨hx, hb, hml, hown, hts, hin, hEV, hB0, hfr, hlo⟩ := C
  have hok := ok_all he
  have hok' := (Bool.and_eq_true _ _).mp hok.2
  have hd : decode (bc y) pc = .ok (.getstatic idx, lenI (.getstatic idx) r) := of_decide_eq_true hok'.1
  have hres : resB (mi y).1 (isIn y) pc (.getstatic idx) r = true := hok'.2
  have hSok := hR.2.2.2.2.2.2
  unfold stp at h
  dsimp only at h
  have hr : (∃ v, r = [0, v]) ∨ (∃ v, r = [2, v]) ∨ ¬ ((∃ v, r = [0, v]) ∨ ∃ v, r = [2, v]) := by
    rcases Classical.em (∃ v, r = [0, v]) with q | q
    · exact Or.inl q
    · rcases Classical.em (∃ v, r = [2, v]) with q2 | q2
      · exact Or.inr (Or.inl q2)
      · exact Or.inr (Or.inr (fun z => z.elim q q2))
  rcases hr with ⟨v, rfl⟩ | ⟨v, rfl⟩ | hr
  · obtain ⟨hn, h⟩ := bif0_some h
    rw [Bool.and_eq_true, decide_eq_true_eq, decide_eq_true_eq] at hn
    cases h
    have h1 : v = 1 ∧ (mi y).1 = 11 ∧ idx = 38 := by
      by_cases hv : v = 1
      · subst hv
        have h2 : ((mi y).1 == 11 && idx == 38) = true := hres
        rw [Bool.and_eq_true, beq_iff_eq, beq_iff_eq] at h2
        exact ⟨rfl, h2⟩
      · exfalso
        unfold resB at hres
        dsimp only at hres
        split at hres
        · rename_i heq; cases heq; exact hv rfl
        · rename_i heq; cases heq
        · simp at hres
    obtain ⟨rfl, ho, rfl⟩ := h1
    rw [ho] at hown
    exact va_gets (A := B0) (C := RJ0) (ref := RJ0) hx hb hEV.2.2.1 hR.2.2.1 hown (hts _ (tw_of in_cs rfl)) (fun _ h9 => h9) hd (kk.stk hR (okc (show _ ∧ _ from hn) hSok))
  · obtain ⟨hn, h⟩ := bif0_some h
    rw [decide_eq_true_eq] at hn
    cases h
    have h2 : ((mi y).1 == 11 && idx == 1053 && v == -2 - 2 * (nS : Int)) = true := hres
    rw [Bool.and_eq_true, Bool.and_eq_true, beq_iff_eq, beq_iff_eq, beq_iff_eq] at h2
    obtain ⟨⟨ho, rfl⟩, rfl⟩ := h2
    rw [ho] at hown
    have h9 : W p l e R s m args below meth c H locs cells slots Q (F0 m (pc + 3) ls (cvR E ad (-2 - 2 * (nS : Int)) :: S.map (cv E ad))) := kk.stk hR (okc (show _ < ((σ.1 : Nat) : Int) by omega) hSok)
    have e1 : cvR E ad (-2 - 2 * (nS : Int)) = E.2.2 := by
      have e2 : strOf nS (-2 - 2 * (nS : Int)) = none := by decide
      have e3 : bytOf nS (-2 - 2 * (nS : Int)) = none := by decide
      unfold cvR
      rw [e2, e3, if_neg (by decide), if_neg (by decide)]
    rw [e1] at h9
    exact va_gets (A := B0) (C := RJ3) (ref := RJ3) hx hb hEV.2.2.2.1 hR.2.2.1 hown (hts _ (tw_of in_sf rfl)) (fun _ h9 => h9) hd h9
  · exfalso
    split at h
    · exact absurd (Or.inl ⟨_, rfl⟩) hr
    · exact absurd (Or.inr ⟨_, rfl⟩) hr
    · cases h
theorem st_getfield {idx : Nat} {r : List Int} {pc1 : Nat} {L1 S1 : List AV} {σ1 : Sg} (C : CX p R s m args meth c y d G cA E B0) (he : (pc, (.getfield idx : Instr), r) ∈ cod y) (h : stp nS sB (.getfield idx) r pc L S σ = some (pc1, L1, S1, σ1)) (hnL : nL = mL y) (hR : REL G cA E B0 s.heap nL ad σ H locs ls L S) (kk : KT p l e R s m args below meth c Q G cA E B0 nL cells slots ad σ pc1 L1 S1 σ1) : W p l e R s m args below meth c H locs cells slots Q (F0 m pc ls (S.map (cv E ad))) := by
  obtain ⟨hx, hb, hml, hown, hts, hin, hEV, hB0, hfr, hlo⟩ := C
  have hok := ok_all he
  have hok' := (Bool.and_eq_true _ _).mp hok.2
  have hd : decode (bc y) pc = .ok (.getfield idx, lenI (.getfield idx) r) := of_decide_eq_true hok'.1
  have hres : resB (mi y).1 (isIn y) pc (.getfield idx) r = true := hok'.2
  have hSok := hR.2.2.2.2.2.2
  unfold stp at h
  dsimp only at h
  have hh := h
  clear h
  match r, hh, hres, he, hd with
  | [], h, _, _, _ => cases h
  | [_], h, _, _, _ => cases h
  | [_, _], h, _, _, _ => cases h
  | _ :: _ :: _ :: _ :: _, h, _, _, _ => cases h
  | [tg, ci, k], h, hres, he, hd =>
    have h9 := bR_some h
    clear h
    obtain ⟨a, S3, rfl, h⟩ := h9
    by_cases h50 : ci = 50
    · subst h50
      have h2 : ((mi y).1 == 11 && ((idx == 9 && tg == 2 && k == 0) || (idx == 15 && tg == 0 && k == 1))) = true := hres
      rw [Bool.and_eq_true, Bool.or_eq_true, Bool.and_eq_true, Bool.and_eq_true, Bool.and_eq_true, Bool.and_eq_true, beq_iff_eq, beq_iff_eq, beq_iff_eq, beq_iff_eq, beq_iff_eq, beq_iff_eq, beq_iff_eq] at h2
      obtain ⟨ho, h2⟩ := h2
      rw [ho] at hown
      cases hs : strOf nS a with
      | none =>
        simp [hs] at h
      | some j =>
        obtain ⟨e1, hj⟩ := cvR_str (E := E) (ad := ad) hs
        show W p l e R s m args below meth c H locs cells slots Q (F0 m pc ls (cvR E ad a :: S3.map (cv E ad)))
        rw [e1]
        obtain ⟨-, v2, v3, -, -⟩ := hEV.2.1 j hj
        rcases h2 with ⟨⟨rfl, rfl⟩, rfl⟩ | ⟨⟨rfl, rfl⟩, rfl⟩
        · simp only [hs] at h
          cases h
          have h9 : W p l e R s m args below meth c H locs cells slots Q (F0 m (pc + 3) ls (cvR E ad (-2 - (nS : Int) - (j : Int)) :: S3.map (cv E ad))) := kk.stk hR (okc (show _ < ((σ.1 : Nat) : Int) by omega) (okt hSok))
          rw [(cvR_byt (byt_of hj)).1] at h9
          exact vk_getf (A := B0) (ref := RJ0) hx hb v3 hR.2.2.1 hown (hts _ (tw_of in_sv rfl)) (fun _ h9 => h9) hd h9
        · simp only [hs] at h
          cases h
          exact vk_getf (A := B0) (ref := RJ0) hx hb v2 hR.2.2.1 hown (hts _ (tw_of in_sc rfl)) (fun _ h9 => h9) hd (kk.stk hR (okc (show _ ∧ _ from ⟨by decide, by decide⟩) (okt hSok)))
    · have h2 : (decide (0 ≤ ci) && decide (0 ≤ k) && (decide (idx < 10000 ∧ ci.toNat < 100 ∧ k.toNat < 100) && hasN FTn (ecF ((mi y).1, idx, ci.toNat, k.toNat))) && tg == (ft ci.toNat k.toNat : Int)) = true := by
        have h3 := hres
        unfold resB at h3
        dsimp only at h3
        split at h3
        · rename_i heq; cases heq; exact absurd rfl h50
        · rename_i heq; cases heq; exact h3
        · rename_i h4; exact absurd rfl (h4 tg ci k)
      rw [Bool.and_eq_true, Bool.and_eq_true, Bool.and_eq_true, Bool.and_eq_true, decide_eq_true_eq, decide_eq_true_eq, decide_eq_true_eq, beq_iff_eq] at h2
      have h5 : gfld L S3 σ (pc + 3) tg.toNat ci.toNat k.toNat a = some (pc1, L1, S1, σ1) := by
        split at h
        · exact absurd rfl (by assumption)
        · exact h
      exact st_gfld ⟨hx, hb, hml, hown, hts, hin, hEV, hB0, hfr, hlo⟩ hd (FT_of h2.1.2.1 h2.1.2.2) (by omega) hR rfl h5 kk
theorem st_putfield {idx : Nat} {r : List Int} {pc1 : Nat} {L1 S1 : List AV} {σ1 : Sg} (C : CX p R s m args meth c y d G cA E B0) (he : (pc, (.putfield idx : Instr), r) ∈ cod y) (h : stp nS sB (.putfield idx) r pc L S σ = some (pc1, L1, S1, σ1)) (hnL : nL = mL y) (hR : REL G cA E B0 s.heap nL ad σ H locs ls L S) (kk : KT p l e R s m args below meth c Q G cA E B0 nL cells slots ad σ pc1 L1 S1 σ1) : W p l e R s m args below meth c H locs cells slots Q (F0 m pc ls (S.map (cv E ad))) := by
  obtain ⟨hx, hb, hml, hown, hts, hin, hEV, hB0, hfr, hlo⟩ := C
  have hok := ok_all he
  have hok' := (Bool.and_eq_true _ _).mp hok.2
  have hd : decode (bc y) pc = .ok (.putfield idx, lenI (.putfield idx) r) := of_decide_eq_true hok'.1
  have hres : resB (mi y).1 (isIn y) pc (.putfield idx) r = true := hok'.2
  have hSok := hR.2.2.2.2.2.2
  unfold stp at h
  dsimp only at h
  have hh := h
  clear h
  match r, hh, hres, he, hd with
  | [], h, _, _, _ => cases h
  | [_], h, _, _, _ => cases h
  | [_, _], h, _, _, _ => cases h
  | [_, _, _], h, _, _, _ => cases h
  | _ :: _ :: _ :: _ :: _ :: _, h, _, _, _ => cases h
  | [tg, ci, k, fi], h, hres, he, hd =>
    cases S with
    | nil => cases h
    | cons q S2 =>
      have h9 := bR_some h
      clear h
      obtain ⟨a, S3, rfl, h⟩ := h9
      have h2 : (decide (0 ≤ ci) && decide (0 ≤ k) && (decide (idx < 10000 ∧ ci.toNat < 100 ∧ k.toNat < 100) && hasN FTn (ecF ((mi y).1, idx, ci.toNat, k.toNat))) && tg == (ft ci.toNat k.toNat : Int) && fi == isFin ci.toNat k.toNat && (fi == 0 || (isIn y && ci.toNat == (mi y).1))) = true := hres
      rw [Bool.and_eq_true, Bool.and_eq_true, Bool.and_eq_true, Bool.and_eq_true, Bool.and_eq_true, Bool.and_eq_true, decide_eq_true_eq, decide_eq_true_eq, decide_eq_true_eq, beq_iff_eq, beq_iff_eq, Bool.or_eq_true, Bool.and_eq_true, beq_iff_eq, beq_iff_eq] at h2
      obtain ⟨⟨⟨⟨⟨h3, h4⟩, h5, h6⟩, h7⟩, h8⟩, h9⟩ := h2
      refine st_pfld ⟨hx, hb, hml, hown, hts, hin, hEV, hB0, hfr, hlo⟩ hd (FT_of h5 h6) (by omega) ?_ hR rfl h kk
      rcases h9 with z | z
      · refine Or.inl ?_
        rw [h8] at z
        unfold isFin at z
        split at z
        · exact absurd z (by decide)
        · rename_i hf
          simpa using hf
      · exact Or.inr z
/-- every instruction that is no call -/
theorem stp_snd {i : Instr} {r : List Int} {pc1 : Nat} {L1 S1 : List AV} {σ1 : Sg} (C : CX p R s m args meth c y d G cA E B0) (he : (pc, i, r) ∈ cod y) (h : stp nS sB i r pc L S σ = some (pc1, L1, S1, σ1)) (hnL : nL = mL y) (hR : REL G cA E B0 s.heap nL ad σ H locs ls L S) (hcc : cells + (σ1.1 - σ.1) ≤ R.cells) (hcs : slots + (σ1.2.1 - σ.2.1) ≤ R.slots) (kk : KT p l e R s m args below meth c Q G cA E B0 nL cells slots ad σ pc1 L1 S1 σ1) : W p l e R s m args below meth c H locs cells slots Q (F0 m pc ls (S.map (cv E ad))) := by
  cases i
  case iconst => exact st_iconst C he h hnL hR kk
  case bipush => exact st_bipush C he h hnL hR kk
  case sipush => exact st_sipush C he h hnL hR kk
  case lconst => exact st_lconst C he h hnL hR kk
  case iload_n => exact st_iload_n C he h hnL hR kk
  case iload => exact st_iload C he h hnL hR kk
  case lload_n => exact st_lload_n C he h hnL hR kk
  case lload => exact st_lload C he h hnL hR kk
  case aload_n => exact st_aload_n C he h hnL hR kk
  case aload => exact st_aload C he h hnL hR kk
  case istore_n => exact st_istore_n C he h hnL hR kk
  case istore => exact st_istore C he h hnL hR kk
  case lstore_n => exact st_lstore_n C he h hnL hR kk
  case lstore => exact st_lstore C he h hnL hR kk
  case astore_n => exact st_astore_n C he h hnL hR kk
  case iinc => exact st_iinc C he h hnL hR kk
  case iadd => exact st_iadd C he h hnL hR kk
  case isub => exact st_isub C he h hnL hR kk
  case imul => exact st_imul C he h hnL hR kk
  case iand => exact st_iand C he h hnL hR kk
  case ishr => exact st_ishr C he h hnL hR kk
  case idiv => exact st_idiv C he h hnL hR kk
  case irem => exact st_irem C he h hnL hR kk
  case ineg => exact st_ineg C he h hnL hR kk
  case ladd => exact st_ladd C he h hnL hR kk
  case lsub => exact st_lsub C he h hnL hR kk
  case lmul => exact st_lmul C he h hnL hR kk
  case ldiv => exact st_ldiv C he h hnL hR kk
  case lrem => exact st_lrem C he h hnL hR kk
  case lneg => exact st_lneg C he h hnL hR kk
  case lshr => exact st_lshr C he h hnL hR kk
  case lushr => exact st_lushr C he h hnL hR kk
  case lcmp => exact st_lcmp C he h hnL hR kk
  case i2l => exact st_i2l C he h hnL hR kk
  case l2i => exact st_l2i C he h hnL hR kk
  case i2b => exact st_i2b C he h hnL hR kk
  case i2c => exact st_i2c C he h hnL hR kk
  case dup => exact st_dup C he h hnL hR kk
  case dup_x1 => exact st_dup_x1 C he h hnL hR kk
  case dup2 => exact st_dup2 C he h hnL hR kk
  case pop => exact st_pop C he h hnL hR kk
  case goto => exact st_goto C he h hnL hR kk
  case ifnull => exact st_ifnull C he h hnL hR kk
  case ifnonnull => exact st_ifnonnull C he h hnL hR kk
  case tableswitch => exact st_tableswitch C he h hnL hR kk
  case lookupswitch => exact st_lookupswitch C he h hnL hR kk
  case ldc => exact st_ldc C he h hnL hR kk
  case ldc_w => exact st_ldc_w C he h hnL hR kk
  case getstatic => exact st_getstatic C he h hnL hR kk
  case getfield => exact st_getfield C he h hnL hR kk
  case putfield => exact st_putfield C he h hnL hR kk
  case arraylength => exact st_arraylength C he h hnL hR kk
  case iaload => exact st_iaload C he h hnL hR kk
  case laload => exact st_laload C he h hnL hR kk
  case baload => exact st_baload C he h hnL hR kk
  case iastore => exact st_iastore C he h hnL hR kk
  case lastore => exact st_lastore C he h hnL hR kk
  case bastore => exact st_bastore C he h hnL hR kk
  case aconst_null => exact st_null C he h hnL hR kk
  case ldc2_w => exact st_ldc2 C he h hnL hR kk
  case new => exact st_new C he h hnL hR hcc hcs kk
  case newarray => exact st_newarray C he h hnL hR hcc hcs kk
  case invokespecial => exact st_objinit C he h hnL hR kk
  case invokestatic => exact st_arraycopy C he h hnL hR kk
  case ifCond cd off =>
    cases cd with
    | eq => exact st_if_eq C he h hnL hR kk
    | ne => exact st_if_ne C he h hnL hR kk
    | lt => exact st_if_lt C he h hnL hR kk
    | ge => exact st_if_ge C he h hnL hR kk
    | gt => exact st_if_gt C he h hnL hR kk
    | le => exact st_if_le C he h hnL hR kk
  case if_icmp cd off =>
    cases cd with
    | eq => exact st_icmp_eq C he h hnL hR kk
    | ne => exact st_icmp_ne C he h hnL hR kk
    | lt => exact st_icmp_lt C he h hnL hR kk
    | ge => exact st_icmp_ge C he h hnL hR kk
    | gt => exact st_icmp_gt C he h hnL hR kk
    | le => exact st_icmp_le C he h hnL hR kk
  all_goals exact nomatch (show (none : Option St) = some _ from h)
end STC
