/-! needRun inside the class's methods. -/
set_option maxRecDepth 100000 in
theorem nr_link : Cond.methodLink "QuillEngine" 104 (yn 180) ∈ lw_tbl := List.mem_of_getElem? (i := 1350) rfl
theorem recv_at {s : State} {H : Heap} {G : va_G} {cA : Nat → ClassId} {E : EE} {ad : Nat → Nat} {t : Int} {v : Mem} (hK : va_K G vCl (aTys cA) s) (hP : va_P G vCl (wsO cA E (sg t v) ad) H) {r ci : Nat} (hr : r < 82) (hs : (SH r).1 = ci) (hci : ci < 11) : ∃ cell : Cell, H[ad r]? = some cell ∧ cell.vm.isStatics = false ∧ s.vm.findClass (Rn ci) = some cell.cls :=
  va_recv hK hP (vCl_at hci) (by rw [wsO_at (σ := sg t v) hr, entE_obj (σ := sg t v) hs hci])
theorem okA_this : ∀ q ∈ ([(2, 0)] : List AV), okA 82 q := fun q hq => by
  rw [List.mem_singleton.mp hq]
  exact (by decide : (0 : Int) < ((82 : Nat) : Int))
section HXB
variable {p : Program} {l : Launch} {e : Env} {R : Room} {s : State} {m : MethodId} {args : Array Value} {below : List Frame} {meth : Method} {c : Code} {H : Heap} {locs : List Loc} {cells slots : Nat} {Q : State → Prop} {G : va_G} {cA : Nat → ClassId} {E : EE} {B0 : Nat → Prop} {ad ad0 : Nat → Nat} {ls : Array Slot} {t : Int} {d y pc : Nat} {L S : List AV} {v : Mem}
theorem nr_cw (C : CX p R s m args meth c y (d + 1) G cA E B0) (mc ms : Nat) : CallW R s args "QuillEngine" "QuillEngine" 104 (yn 180) (bc 180) (mL 180) (rt 180) (wsM 180) (rmM d mc ms) mc ms 0 := by
  obtain ⟨hx, hb, hml, hown, hts, hin, hEV, hB0, hfr, hlo⟩ := C
  obtain ⟨yp1, yp2, yp3, yp4⟩ := y_plain 180 (by decide)
  have hini : (Cond.initialized (yn 180).cls).before args s = true := by
    rw [yp1]
    exact hts _ (tw_of (in_ci 9 (by decide)) rfl)
  refine ⟨callB_of 0 hts (wsM_good (by decide)) rfl rfl rfl hini (hts _ (tw_of nr_link rfl)) ⟨yp3, yp4, y_desc 180 (by decide)⟩ ⟨hfr, ?_⟩, hts _ (tw_of (in_im 180 (iAll_in 180 (by decide) rfl)) rfl), hts _ (tw_of (in_se 180 (sAll_in 180 (by decide) rfl rfl)) rfl)⟩
  have h9 := (y_cls 180 (by decide)).2.1
  show 8 + (mL 180 + 11) + (28 * d + 60) ≤ R.locals
  omega
/-- it returns -/
theorem nr_ret (C : CX p R s m args meth c y (d + 1) G cA E B0) (hR : REL G cA E B0 s.heap (mL y) ad (sg t v) H locs ls L [(2, 0)]) (hq : (mi y).1 = 9) (h7 : ¬ v 0 7 = 0) (hdec : decode (bc y) pc = .ok (.invokevirtual 104, 3)) (hc : cells ≤ R.cells) (hs : slots ≤ R.slots)
    (kk : ∀ (ad1 : Nat → Nat) (H1 : Heap) (locs1 : List Loc) (ls1 : Array Slot), (∀ c, c < 82 → ad1 c = ad c) → REL G cA E B0 s.heap (mL y) ad1 (sg t v) H1 locs1 ls1 L [] → W p l e R s m args below meth c H1 locs1 cells slots Q (F0 m (pc + 3) ls1 (([] : List AV).map (cv E ad1)))) : W p l e R s m args below meth c H locs cells slots Q (F0 m pc ls (([(2, 0)] : List AV).map (cv E ad))) := by
  obtain ⟨x, v', hv', hM⟩ := met_xt (l := l) (t := t) (t' := t) (d := d) (y := 180) (as := [(2, 0)]) (v := v) (P := fun _ v' => v' = v) (w_180 ⟨fun h => h7 h, fun _ => rfl⟩ : RR t d 180 [(2, 0)] v _) rfl hR.2.2.2.2.1 okA_this G cA E B0 ad
  subst hv'
  obtain ⟨hx, hb, hml, hown, hts, hin, hEV, hB0, hfr, hlo⟩ := id C
  have hown9 : s.vm.findClass "QuillEngine" = some m.cls := by rw [hq] at hown; exact hown
  have hr := va_runV (l := l) (e := e) (below := below) (meth := meth) (H := H) (locs := locs) (cells := cells) (slots := slots) (C := "QuillEngine") (b := ad 0) (As := []) (rest := []) (g := F0 m pc ls [.ref (ad 0)]) ⟨hx, hb, hml, hown9, hts⟩ hM (nr_cw C 0 0) ⟨PcM.blind, recv_at hEV.1 hR.1 (r := 0) (ci := 9) (by decide) rfl (by decide), fun U hU hW => pre_U C hR rfl hU hW⟩ rfl rfl hR.2.2.2.1.1 rfl (lv_room (by decide)) hdec ⟨by omega, by omega⟩
  have hr9 : va_Run p l e R s m args below meth c H locs cells slots ((sg t v').1 - (sg t v').1) ((sg t v').2.1 - (sg t v').2.1) (F0 m pc ls [.ref (ad 0)]) (([] : List AV).map (cv E ad)) (fun st o tt => QcM G cA E B0 ad (sg t v') (rvOf 180 x) (sg t v') (Value.ref (ad 0) :: []).toArray st o tt ∧ okS (sg t v') ∧ ∀ q ∈ rvOf 180 x, okA (sg t v').1 q) B0 := by
    rw [Nat.sub_self, Nat.sub_self]
    exact hr
  refine call_go (σ := sg t v') (σ1 := sg t v') (rv := rvOf 180 x) (S1 := []) hr9 hR (Nat.le_refl _) (fun q hq => by cases hq) (by show 0 ≤ 1; decide) ?_
  intro ad1 H1 locs1 ls1 hext hR1
  rw [Nat.sub_self, Nat.sub_self]
  exact kk ad1 H1 locs1 ls1 hext hR1
/-- it throws -/
theorem nr_thr {Qc : Array Value → State → Outcome → State → Prop} (hl : l.stackTraces = false) (C : CX p R s m args meth c y (d + 1) G cA E B0) (hXE : XEv B0 s s.heap) (hR : REL G cA E B0 s.heap (mL y) ad (sg t v) H locs ls L [(2, 0)]) (hq : (mi y).1 = 9) (h7 : v 0 7 = 0) (hdec : decode (bc y) pc = .ok (.invokevirtual 104, 3)) (hlocks : meth.locks = false) (hT : ∀ x ∈ c.exceptionTable.toList, False) (had : ∀ c, c < 82 → ad c = ad0 c) (hd : 5 ≤ d) (hc : 1 ≤ R.cells) (hs : 6 ≤ R.slots) :
    W p l e R s m args below meth c H locs 0 0 (vx_MQ below Qc (QtX G cA E B0 ad0 t v nIS) args s 1 6 B0) (F0 m pc ls (([(2, 0)] : List AV).map (cv E ad))) := by
  have hM : vx_Met l (yn 180) (wsM 180) (rmM d 1 6) (PcX G cA E B0 ad [(2, 0)] (sg t v)) (va_Qv (fun (_ : Unit) => False) (fun _ _ => True) B0) (QtX G cA E B0 ad t v nIS) 1 6 B0 := ct_thr hl (y := 180) (pc1 := 7) (is := 151) (by decide) (by decide +kernel) rfl hR.2.2.2.2.1 okA_this rfl (th_180 h7) XW_s (by decide) (by decide +kernel) (by decide +kernel) (by decide +kernel) (by decide +kernel) (by decide +kernel) hd
  obtain ⟨hx, hb, hml, hown, hts, hin, hEV, hB0, hfr, hlo⟩ := id C
  have hown9 : s.vm.findClass "QuillEngine" = some m.cls := by rw [hq] at hown; exact hown
  have e9 : wsO cA E (sg t v) ad = wsO cA E (sg t v) ad0 := wsO_ad hR.2.2.2.2.1 had
  have hr := vx_runV (l := l) (e := e) (below := below) (meth := meth) (H := H) (locs := locs) (cells := 0) (slots := 0) (C := "QuillEngine") (b := ad 0) (As := []) (rest := []) (g := F0 m pc ls [.ref (ad 0)]) ⟨hx, hb, hml, hown9, hts⟩ hM (nr_cw C 1 6) ⟨PcX.blind, recv_at hEV.1 hR.1 (r := 0) (ci := 9) (by decide) rfl (by decide), fun U hU hW => ⟨pre_U C hR rfl hU hW, by rw [hU]; exact (hXE.kept hR.2.2.1.2.1).moved hW⟩⟩ rfl rfl hR.2.2.2.1.1 rfl (lv_room (by decide)) hdec ⟨by omega, by omega⟩
  refine vx_callv (rest := []) (st0 := [.ref (ad 0)]) hr hR.2.2.1 (fun _ _ h => h) (fun _ h => h) (fun _ _ h => h) ?_ ?_
  · intro E9 ce q9 u tt H1 locs1 ht _ _ hB _ _ hS1 hce hcv hcl
    obtain ⟨h1, h2⟩ := hB
    refine vx_out (E := E9) (fun x hx9 => (hT x hx9).elim) hlocks hce hcv hcl ?_ hS1.2.2 (Nat.le_refl _) (Nat.le_refl _)
    intro t9 h9 _
    refine ⟨(), trivial, ⟨h1, ?_⟩, hS1.F h9⟩
    rw [h9, ← ht, ← e9]
    exact h2
  · intro u tt H1 locs1 _ _ hf
    exact hf.elim
end HXB
section HXC
variable {l : Launch} {d y : Nat} {as L1 : List AV} {t : Int} {v : Mem} {G : va_G} {cA : Nat → ClassId} {E : EE} {B0 : Nat → Prop} {ad : Nat → Nat} {Qc : Array Value → State → Outcome → State → Prop}
/-- needRun throws: so does the method -/
theorem ct_nr (hl : l.stackTraces = false) (hy : y < nY) (hpl : plainName (yn y).cls = true) (ht : as.map Prod.fst = (mi y).2.1) (hok : okS (sg t v)) (hoa : ∀ q ∈ as, okA 82 q) (hq : (mi y).1 = 9) (hw : XH t (d + 1) y 0 (entL y as) [] v 1 L1 [(2, 0)]) (h7 : v 0 7 = 0) (hdec : decode (bc y) 1 = .ok (.invokevirtual 104, 3)) (hd : 5 ≤ d) :
    vx_Met l (yn y) (wsM y) (rmM (d + 1) 1 6) (PcX G cA E B0 ad as (sg t v)) Qc (QtX G cA E B0 ad t v nIS) 1 6 B0 :=
  ct_body hy hpl ht hok hoa (fun _ _ _ _ _ _ _ _ C hXE _ hlocks hT hR => go_of hw C hR (Nat.zero_le _) (Nat.zero_le _) (fun _ _ _ _ hext hR1 => nr_thr hl C hXE hR1 hq h7 hdec hlocks hT hext hd (Nat.le_refl _) (Nat.le_refl _)))
/-- needRun returns, and then the method throws -/
theorem ct_nrx {cls : String} {ik is ic pc1 : Nat} {L2 : List AV} (hl : l.stackTraces = false) (hy : y < nY) (hpl : plainName (yn y).cls = true) (ht : as.map Prod.fst = (mi y).2.1) (hok : okS (sg t v)) (hoa : ∀ q ∈ as, okA 82 q) (hq : (mi y).1 = 9) (hw : XH t (d + 1) y 0 (entL y as) [] v 1 L1 [(2, 0)]) (h7 : ¬ v 0 7 = 0) (hdec : decode (bc y) 1 = .ok (.invokevirtual 104, 3)) (hd : 5 ≤ d)
    (h : XH t (d + 1) y 4 L1 [] v pc1 L2 []) (hx : XW cls ik ic) (his : is ∈ [67, 72, 94, 97, 99, 131, 142, 151])
    (d0 : decode (bc y) pc1 = .ok (.new ik, 3)) (d3 : decode (bc y) (pc1 + 3) = .ok (.dup, 1)) (d4 : decode (bc y) (pc1 + 4) = .ok (.ldc is, 2)) (d6 : decode (bc y) (pc1 + 6) = .ok (.invokespecial ic, 3)) (d9 : decode (bc y) (pc1 + 9) = .ok (.athrow, 1)) :
    vx_Met l (yn y) (wsM y) (rmM (d + 1) 1 6) (PcX G cA E B0 ad as (sg t v)) Qc (QtX G cA E B0 ad t v cls) 1 6 B0 :=
  ct_body hy hpl ht hok hoa (fun _ _ _ _ _ _ _ _ C hXE _ hlocks hT hR => go_of hw C hR (Nat.zero_le _) (Nat.zero_le _) (fun _ _ _ _ hext hR1 => nr_ret C hR1 hq h7 hdec (Nat.zero_le _) (Nat.zero_le _) (fun _ _ _ _ hext2 hR2 => bd_thr hl h C hXE hq hlocks hT hR2 (fun c hc => (hext2 c hc).trans (hext c hc)) hx his d0 d3 d4 d6 d9 (by omega) (Nat.le_refl _) (Nat.le_refl _))))
/-- needRun returns, and so does the method -/
theorem mr_nr {P : Int → Mem → Prop} (hy : y < nY) (ht : as.map Prod.fst = (mi y).2.1) (hok : okS (sg t v)) (hoa : ∀ q ∈ as, okA 82 q) (hq : (mi y).1 = 9) (hi : (mi y).2.2.1 = 0) (hw : XH t (d + 1) y 0 (entL y as) [] v 1 L1 [(2, 0)]) (h7 : ¬ v 0 7 = 0) (hdec : decode (bc y) 1 = .ok (.invokevirtual 104, 3)) (h : LL t (d + 1) y 4 L1 [] v P) (G : va_G) (cA : Nat → ClassId) (E : EE) (B0 : Nat → Prop) (ad : Nat → Nat) :
    ∃ (x : Int) (v' : Mem), P x v' ∧ Met l (yn y) (wsM y) (rmM (d + 1) 0 0) (PcM G cA E B0 ad as (sg t v)) (fun a st o tt => QcM G cA E B0 ad (sg t v) (rvOf y x) (sg t v') a st o tt ∧ okS (sg t v') ∧ ∀ q ∈ rvOf y x, okA 82 q) 0 0 B0 := by
  obtain ⟨x, v', h1, h2⟩ := h
  refine ⟨x, v', h2, ?_⟩
  have hrv : rvOf y x = [(0, x)] := by unfold rvOf; rw [hi]; rfl
  rw [hrv]
  rw [hrv] at h1
  unfold xR at h1
  cases hx0 : xr (d + 1) y 4 L1 [] (sg t v) with
  | none => rw [hx0] at h1; cases h1
  | some q =>
    obtain ⟨pc1, L2, S2, σ1⟩ := q
    rw [hx0] at h1
    have h1 : (retV y pc1 S2).map (fun rv => (rv, σ1)) = some ([(0, x)], sg t v') := h1
    cases hr : retV y pc1 S2 with
    | none => rw [hr] at h1; cases h1
    | some rv =>
      rw [hr] at h1
      have h1 : some (rv, σ1) = some ([(0, x)], sg t v') := h1
      injection h1 with h1
      injection h1 with e1 e2
      subst e2
      subst e1
      obtain ⟨f, hf⟩ := x_some.mp hx0
      obtain ⟨r0, hlk, rfl⟩ := ret_int hi hr
      have hdr : decode (bc y) pc1 = .ok (.ireturn, 1) := of_decide_eq_true ((Bool.and_eq_true _ _).mp (ok_all (lk_mem hlk)).2).1
      have hrt : rt y = some .int := by
        rcases y_rt y hy with ⟨g1, g2⟩ | ⟨g1, g2⟩ | ⟨g1, g2⟩ | ⟨g1, g2⟩ | ⟨g1, g2⟩ | ⟨g1, g2⟩
        · exact g2
        all_goals (rw [hi] at g1; exact absurd g1 (by decide))
      obtain ⟨yp1, yp2, yp3, yp4⟩ := y_plain y hy
      refine va_MetF (cc := bc y) (maxL := mL y) (ret := rt y) yp2 rfl ?_
      intro p e s m args below meth c s₁ B hml hv
      obtain ⟨rfl, hEV, hB0, hP, hD⟩ := hv
      have hts0 := atoms_spec (ws := wsM y) B.pre
      have hts : ∀ w ∈ tw, w.before (as.map (cv E ad)).toArray s = true := fun w hw => hts0 w (List.mem_cons_of_mem _ hw)
      have hown : s.vm.findClass (Rn (mi y).1) = some m.cls := by rw [← yp1]; exact findClass_of_methodNamed B.named
      have hin : isIn y = true → meth.name = "<init>" := fun q => by rw [(name_of_methodNamed B.named B.method).1]; exact (y_in y hy q).1
      have hlocks := B.notSynchronized
      have C : CX p (headSpec (wsM y) (rmM (d + 1) 0 0)).room s m (as.map (cv E ad)).toArray meth c y (d + 1) G cA E B0 := ⟨B.exec, B.bytes, hml, hown, hts, hin, hEV, hB0, Nat.le_refl _, Nat.le_refl _⟩
      have hlay : (layA as).length ≤ mL y := by rw [layA_len, ht]; exact y_lay y hy
      rw [lg_entry_eq]
      refine go_of hw C ⟨hP, hD, va_S.rf, entL_LR hEV.2.2.2.2 ad hlay, hok, entL_ok hoa, fun q hq => by cases hq⟩ (Nat.zero_le _) (Nat.zero_le _) (fun ad1 H1 locs1 ls1 hext hR1 => ?_)
      refine nr_ret C hR1 hq h7 hdec (Nat.zero_le _) (Nat.zero_le _) (fun ad2 H2 locs2 ls2 hext2 hR2 => ?_)
      refine snd_all l f (d + 1) y 4 L1 [] (sg t v) pc1 L2 [(0, x)] (sg t v') hf p e _ s m _ below meth c H2 locs2 0 0 _ G cA E B0 ad2 ls2 C hR2 (by show 0 + (82 - 82) ≤ _; rw [Nat.sub_self]; exact Nat.zero_le _) (by show 0 + (nSl - nSl) ≤ _; rw [Nat.sub_self]; exact Nat.zero_le _) ?_
      intro ad3 H3 locs3 ls3 hext3 hR3
      show W _ _ _ _ _ _ _ _ _ _ _ _ (0 + (82 - 82)) (0 + (nSl - nSl)) _ _
      rw [Nat.sub_self, Nat.sub_self, Nat.add_zero]
      have hSok : ∀ q ∈ [((0 : Nat), x)], okA 82 q := hR3.2.2.2.2.2.2
      refine W.iret (v := Int32.ofInt x) B.exec B.bytes (by rw [B.returns, hrt]) (fun tt htt _ => ⟨⟨ad3, fun c hc => ((hext3 c hc).trans (hext2 c hc)).trans (hext c hc), rfl, by rw [htt]; exact hR3.1, hR3.2.1, hR3.2.2.1.F htt⟩, hR3.2.2.2.2.1, hSok⟩) hR3.2.2.1.2.2 hdr
end HXC
