/-! The law's catchers. -/
def NCx (U : State) : Prop := va_Nc nIA nIS U ∧ va_Nc nIB nIS U
theorem NCx.moved {u U : State} (hvm : u.vm.Alike U.vm) (h : NCx u) : NCx U := ⟨h.1.moved hvm, h.2.moved hvm⟩
def PcH (G : va_G) (cA : Nat → ClassId) (E : EE) (A : Nat → Prop) (o : Nat) (ad : Nat → Nat) (t : Int) (v : Mem) (f : Nat → Int64) (vals : List Value) : Array Value → State → Prop := fun w U => w = vals.toArray ∧ EV G cA E A U U.heap ∧ XEv A U U.heap ∧ NCx U ∧ (∀ q, U.heap.size ≤ q → A q) ∧ LWd G cA E A o ad t v f U.heap
theorem PcH.blind {G : va_G} {cA : Nat → ClassId} {E : EE} {A : Nat → Prop} {o : Nat} {ad : Nat → Nat} {t : Int} {v : Mem} {f : Nat → Int64} {vals : List Value} : FrameBlind (PcH G cA E A o ad t v f vals) := by
  intro a U g mk h
  obtain ⟨h1, h2, h3, h4, h5, h6⟩ := h
  exact ⟨h1, EV.same (u := U) rfl h2, XEv.same (u := U) rfl h3, NCx.moved (u := U) (Vm.Alike.refl _) h4, h5, h6⟩
def rmH (d mc ms : Nat) : Room := { frames := d + 2, cells := mc, slots := ms, locals := 28 * d + 88 }
def noX (A : Nat → Prop) : String → State → State → Prop := vx_X (fun (_ : Unit) => False) (fun _ _ _ => True) A
/-- the call returned: 0, and out has its answer -/
def QhR (G : va_G) (cA : Nat → ClassId) (E : EE) (A : Nat → Prop) (o : Nat) (ad : Nat → Nat) (t' : Int) (P : Int → Mem → Prop) : Array Value → State → Outcome → State → Prop := va_Qi (fun r (u : Int × Mem × (Nat → Int64)) => r = 0 ∧ P u.1 u.2.1 ∧ (-2147483648 ≤ u.1 ∧ u.1 < 2147483648) ∧ u.2.2 0 = (Int32.ofInt u.1).toInt64) (fun u tt => LWd G cA E A o ad t' u.2.1 u.2.2 tt.heap) A
/-- it threw: k, and nothing changed -/
def QhT (G : va_G) (cA : Nat → ClassId) (E : EE) (A : Nat → Prop) (o : Nat) (ad : Nat → Nat) (t : Int) (v : Mem) (f : Nat → Int64) (k : Int32) : Array Value → State → Outcome → State → Prop := va_Qi (fun r (_ : Unit) => r = k) (fun _ tt => LWd G cA E A o ad t v f tt.heap) A
section LST
variable {p : Program} {l : Launch} {e : Env} {R : Room} {s : State} {m : MethodId} {args : Array Value} {below : List Frame} {meth : Method} {c : Code} {H : Heap} {locs : List Loc} {cells slots : Nat} {Q : State → Prop} {G : va_G} {cA : Nat → ClassId} {E : EE} {A : Nat → Prop} {o : Nat} {ad : Nat → Nat} {ls : Array Slot} {t : Int} {pc : Nat} {v : Mem} {f : Nat → Int64} {cc : ByteArray} {rest : List Value}
theorem LWd.store (hw : LWd G cA E A o ad t v f H) (hS : va_S A s.heap H locs) (hx : p.tables.exec = Jvm.exec) (hb : c.code = cc) (hK : va_K G vCl (aTys cA) s) {x : Int64} (hdg : decode cc pc = .ok (.lastore, 1)) (kk : ∀ (H1 : Heap) (locs1 : List Loc), LWd G cA E A o ad t v (vp_updL f 0 x) H1 → va_S A s.heap H1 locs1 → W p l e R s m args below meth c H1 locs1 cells slots Q (F0 m (pc + 1) ls rest)) : W p l e R s m args below meth c H locs cells slots Q (F0 m pc ls (.long x :: .int 0 :: .ref o :: rest)) := by
  refine va_last (f := f) (i := 0) (n := 1) (cA := cA 3) hx hb hK hw.1 hw.2.1 hS (wsO cA E (sg t v) ad).length 3 (wd_r (k := 0) rfl) rfl (by unfold vp_in; decide) hdg ?_
  intro H1 locs1 hP hD hS1
  have e1 : (wsO cA E (sg t v) ad ++ OUT cA o f).set (wsO cA E (sg t v) ad).length (o, .inl (cA 3, 1, .inr (.inl (vp_updL f ((0 : Int32).toNatClampNeg) x)))) = wsO cA E (sg t v) ad ++ OUT cA o (vp_updL f 0 x) := by
    rw [List.set_append_right _ _ (Nat.le_refl _), Nat.sub_self]
    rfl
  rw [e1] at hP hD
  exact kk H1 locs1 ⟨hP, hD, hw.2.2⟩ hS1
theorem LWd.load (hw : LWd G cA E A o ad t v f H) (hx : p.tables.exec = Jvm.exec) (hb : c.code = cc) (hK : va_K G vCl (aTys cA) s) (hdg : decode cc pc = .ok (.laload, 1)) (kk : W p l e R s m args below meth c H locs cells slots Q (F0 m (pc + 1) ls (.long (f 0) :: rest))) : W p l e R s m args below meth c H locs cells slots Q (F0 m pc ls (.int 0 :: .ref o :: rest)) :=
  va_lald (f := f) (i := 0) (n := 1) (cA := cA 3) hx hb hK hw.O 0 3 rfl rfl (by unfold vp_in; decide) hdg kk
end LST
set_option maxRecDepth 100000 in
theorem lk_13 : Cond.classLink RL 13 nIA ∈ lw_tbl := List.mem_of_getElem? (i := 977) rfl
set_option maxRecDepth 100000 in
theorem lk_19 : Cond.classLink RL 19 nIS ∈ lw_tbl := List.mem_of_getElem? (i := 1053) rfl
set_option maxRecDepth 100000 in
theorem lk_31 : Cond.classLink RL 31 nIB ∈ lw_tbl := List.mem_of_getElem? (i := 1399) rfl
set_option maxRecDepth 100000 in
theorem cs_a : Cond.castable nIA nIA ∈ lw_tbl := List.mem_of_getElem? (i := 984) rfl
set_option maxRecDepth 100000 in
theorem cs_s : Cond.castable nIS nIS ∈ lw_tbl := List.mem_of_getElem? (i := 1060) rfl
set_option maxRecDepth 100000 in
theorem cs_b : Cond.castable nIB nIB ∈ lw_tbl := List.mem_of_getElem? (i := 1410) rfl
set_option maxRecDepth 100000 in
theorem cw_feed : Cond.codeWith yL_feed cL_feed 6 (some .int) [(0, 11, 14, 13)] ∈ lw_tbl := List.mem_of_getElem? (i := 976) rfl
set_option maxRecDepth 100000 in
theorem ml_feed : Cond.methodLink RL 7 (yn 172) ∈ lw_tbl := List.mem_of_getElem? (i := 978) rfl
def wL_feed : List Cond := Cond.codeWith yL_feed cL_feed 6 (some .int) [(0, 11, 14, 13)] :: tw
set_option maxRecDepth 100000 in
theorem hr_feed {l : Launch} {G : va_G} {cA : Nat → ClassId} {E : EE} {A : Nat → Prop} {o : Nat} {ad : Nat → Nat} {d : Nat} {t t9 : Int} {v : Mem} {f : Nat → Int64} {p0 : Int} {p1 : Int} {P : Int → Mem → Prop} (hM : MR l G cA E (B1 A o) ad d 172 [(2, 0), (1, p0), (0, p1)] t t9 v P) : vx_Met l yL_feed wL_feed (rmH d 0 0) (PcH G cA E A o ad t v f [.ref (ad 0), .long (Int64.ofInt p0), .int (Int32.ofInt p1), .ref o]) (QhR G cA E A o ad t9 P) (noX A) 0 0 A := by
  refine vx_ofWH (cc := cL_feed) (maxL := 6) (ret := some .int) (by decide) rfl ?_
  intro p e s m args below meth c s₁ B hml hv
  obtain ⟨rfl, hEV, hXE, hNC, hA, hw⟩ := hv
  have hx := B.exec
  have hb := B.bytes
  have hr := B.returns
  have hlocks := B.notSynchronized
  have hts0 := atoms_spec (ws := wL_feed) B.pre
  have hts : ∀ w ∈ tw, w.before ([.ref (ad 0), .long (Int64.ofInt p0), .int (Int32.ofInt p1), .ref o] : List Value).toArray s = true := fun w hw => hts0 w (List.mem_cons_of_mem _ hw)
  have hown : s.vm.findClass RL = some m.cls := findClass_of_methodNamed B.named
  have hl := lv_entry ([.ref (ad 0), .long (Int64.ofInt p0), .int (Int32.ofInt p1), .ref o] : List Value) (n := 6) (Nat.le_of_ble_eq_true rfl)
  rw [lg_entry_eq]
  generalize (lg_sl ([.ref (ad 0), .long (Int64.ofInt p0), .int (Int32.ofInt p1), .ref o] : List Value) ++ List.replicate (6 - (lg_sl ([.ref (ad 0), .long (Int64.ofInt p0), .int (Int32.ofInt p1), .ref o] : List Value)).length) Slot.unset).toArray = ls at hl ⊢
  have hl : lv_has ls 6 [(0, .ref (ad 0)), (1, .long (Int64.ofInt p0)), (3, .int (Int32.ofInt p1)), (4, .ref o)] := hl
  refine lv_aload hx hb (by decide +kernel : decode cL_feed 0 = .ok (.aload 4, 2)) (lv_at hl 3 rfl) ?_
  refine lv_iconst (v := 0) hx hb (by decide +kernel : decode cL_feed 2 = .ok (.iconst 0, 1)) (by decide) ?_
  refine lv_aload_n hx hb (by decide +kernel : decode cL_feed 3 = .ok (.aload_n 0, 1)) rfl (lv_at hl 0 rfl) ?_
  refine lv_lload_n hx hb (by decide +kernel : decode cL_feed 4 = .ok (.lload_n 1, 1)) rfl (lv_at hl 1 rfl) ?_
  refine lv_iload_n hx hb (by decide +kernel : decode cL_feed 5 = .ok (.iload_n 3, 1)) rfl (lv_at hl 2 rfl) ?_
  refine call_ret (own := RL) (r := 0) (as := [(1, p0), (0, p1)]) (rest := [.int 0, .ref o]) (t' := t9) ⟨hx, hb, hml, hown, hts⟩ hEV hA va_S.rf hw hM (by unfold OKY; decide +kernel) ml_feed rfl (by show 1 + (1 + 0) ≤ 8; decide) hl.1 (by decide +kernel : decode cL_feed 6 = .ok (.invokevirtual 7, 3)) (Nat.le_refl _) (Nat.le_refl _) (Nat.zero_le _) (Nat.zero_le _) rfl (fun x v' H1 locs1 hP hrg hw1 hS1 => ?_)
  refine lv_i2l hx hb (by decide +kernel : decode cL_feed 9 = .ok (.i2l, 1)) rfl ?_
  refine hw1.store hS1 hx hb hEV.1 (by decide +kernel : decode cL_feed 10 = .ok (.lastore, 1)) (fun H2 locs2 hw2 hS2 => ?_)
  refine lv_goto (tgt := 18) hx hb (by decide +kernel : decode cL_feed 11 = .ok (.goto 7, 3)) (by decide) ?_
  refine lv_iconst (v := 0) hx hb (by decide +kernel : decode cL_feed 18 = .ok (.iconst 0, 1)) (by decide) ?_
  exact vx_ret (W.iret (v := 0) hx hb hr (fun tt ht _ => ⟨⟨0, (x, v', vp_updL f 0 (Int32.ofInt x).toInt64), rfl, ⟨rfl, hP, hrg, rfl⟩, by subst ht; exact hw2⟩, hS2.F ht⟩) hS2.2.2 (by decide +kernel : decode cL_feed 19 = .ok (.ireturn, 1)))
set_option maxRecDepth 100000 in
theorem ht_feed_1 {l : Launch} {G : va_G} {cA : Nat → ClassId} {E : EE} {A : Nat → Prop} {o : Nat} {ad : Nat → Nat} {d : Nat} {t t9 : Int} {v : Mem} {f : Nat → Int64} {p0 : Int} {p1 : Int} (hM : MT0 l G cA E (B1 A o) ad d 172 [(2, 0), (1, p0), (0, p1)] t v nIA) : vx_Met l yL_feed wL_feed (rmH d 1 6) (PcH G cA E A o ad t v f [.ref (ad 0), .long (Int64.ofInt p0), .int (Int32.ofInt p1), .ref o]) (QhT G cA E A o ad t v f 1) (noX A) 1 6 A := by
  refine vx_ofWH (cc := cL_feed) (maxL := 6) (ret := some .int) (by decide) rfl ?_
  intro p e s m args below meth c s₁ B hml hv
  obtain ⟨rfl, hEV, hXE, hNC, hA, hw⟩ := hv
  have hx := B.exec
  have hb := B.bytes
  have hr := B.returns
  have hlocks := B.notSynchronized
  have hts0 := atoms_spec (ws := wL_feed) B.pre
  have hts : ∀ w ∈ tw, w.before ([.ref (ad 0), .long (Int64.ofInt p0), .int (Int32.ofInt p1), .ref o] : List Value).toArray s = true := fun w hw => hts0 w (List.mem_cons_of_mem _ hw)
  have hown : s.vm.findClass RL = some m.cls := findClass_of_methodNamed B.named
  have hl := lv_entry ([.ref (ad 0), .long (Int64.ofInt p0), .int (Int32.ofInt p1), .ref o] : List Value) (n := 6) (Nat.le_of_ble_eq_true rfl)
  rw [lg_entry_eq]
  generalize (lg_sl ([.ref (ad 0), .long (Int64.ofInt p0), .int (Int32.ofInt p1), .ref o] : List Value) ++ List.replicate (6 - (lg_sl ([.ref (ad 0), .long (Int64.ofInt p0), .int (Int32.ofInt p1), .ref o] : List Value)).length) Slot.unset).toArray = ls at hl ⊢
  have hl : lv_has ls 6 [(0, .ref (ad 0)), (1, .long (Int64.ofInt p0)), (3, .int (Int32.ofInt p1)), (4, .ref o)] := hl
  refine lv_aload hx hb (by decide +kernel : decode cL_feed 0 = .ok (.aload 4, 2)) (lv_at hl 3 rfl) ?_
  refine lv_iconst (v := 0) hx hb (by decide +kernel : decode cL_feed 2 = .ok (.iconst 0, 1)) (by decide) ?_
  refine lv_aload_n hx hb (by decide +kernel : decode cL_feed 3 = .ok (.aload_n 0, 1)) rfl (lv_at hl 0 rfl) ?_
  refine lv_lload_n hx hb (by decide +kernel : decode cL_feed 4 = .ok (.lload_n 1, 1)) rfl (lv_at hl 1 rfl) ?_
  refine lv_iload_n hx hb (by decide +kernel : decode cL_feed 5 = .ok (.iload_n 3, 1)) rfl (lv_at hl 2 rfl) ?_
  have htab : c.exceptionTable.toList = tableOf [(0, 11, 14, 13)] := vx_table (x := yL_feed) B (hts0 _ List.mem_cons_self)
  refine call_thr (own := RL) (r := 0) (as := [(1, p0), (0, p1)]) (rest := [.int 0, .ref o]) (X := nIA) ⟨hx, hb, hml, hown, hts⟩ hEV hXE hA va_S.rf hw hM (by unfold OKY; decide +kernel) ml_feed rfl (by show 1 + (1 + 0) ≤ 8; decide) hl.1 (by decide +kernel : decode cL_feed 6 = .ok (.invokevirtual 7, 3)) (Nat.le_refl _) (Nat.le_refl _) (Nat.le_refl _) (Nat.le_refl _) rfl (fun ce q9 H1 locs1 hce hcv hcl hw1 hS1 => ?_)
  refine vx_catch (own := RL) (name := nIA) (E := nIA) hown [] ⟨0, 11, 14, 13⟩ [] (by rw [htab]; rfl) (fun z hz => by cases hz) (by decide) (by decide) (hts _ (tw_of lk_13 rfl)) (va_any rfl (hXE.1 _ cs_a rfl)) hce hcv hcl ?_
  refine lv_astore hx hb (by decide +kernel : decode cL_feed 14 = .ok (.astore 5, 2)) hl (by decide) rfl (fun ls9 hl9 => ?_)
  refine lv_iconst (v := 1) hx hb (by decide +kernel : decode cL_feed 16 = .ok (.iconst 1, 1)) (by decide) ?_
  exact vx_ret (W.iret (v := 1) hx hb hr (fun tt ht _ => ⟨⟨1, (), rfl, rfl, by subst ht; exact hw1⟩, hS1.F ht⟩) hS1.2.2 (by decide +kernel : decode cL_feed 17 = .ok (.ireturn, 1)))
set_option maxRecDepth 100000 in
theorem cw_run : Cond.codeWith yL_run cL_run 5 (some .int) [(0, 10, 13, 19), (0, 10, 17, 13)] ∈ lw_tbl := List.mem_of_getElem? (i := 1052) rfl
set_option maxRecDepth 100000 in
theorem ml_run : Cond.methodLink RL 15 (yn 175) ∈ lw_tbl := List.mem_of_getElem? (i := 1054) rfl
def wL_run : List Cond := Cond.codeWith yL_run cL_run 5 (some .int) [(0, 10, 13, 19), (0, 10, 17, 13)] :: tw
set_option maxRecDepth 100000 in
theorem hr_run {l : Launch} {G : va_G} {cA : Nat → ClassId} {E : EE} {A : Nat → Prop} {o : Nat} {ad : Nat → Nat} {d : Nat} {t t9 : Int} {v : Mem} {f : Nat → Int64} {p0 : Int} {p1 : Int} {P : Int → Mem → Prop} (hM : MR l G cA E (B1 A o) ad d 175 [(2, 0), (0, p0), (0, p1)] t t9 v P) : vx_Met l yL_run wL_run (rmH d 0 0) (PcH G cA E A o ad t v f [.ref (ad 0), .int (Int32.ofInt p0), .int (Int32.ofInt p1), .ref o]) (QhR G cA E A o ad t9 P) (noX A) 0 0 A := by
  refine vx_ofWH (cc := cL_run) (maxL := 5) (ret := some .int) (by decide) rfl ?_
  intro p e s m args below meth c s₁ B hml hv
  obtain ⟨rfl, hEV, hXE, hNC, hA, hw⟩ := hv
  have hx := B.exec
  have hb := B.bytes
  have hr := B.returns
  have hlocks := B.notSynchronized
  have hts0 := atoms_spec (ws := wL_run) B.pre
  have hts : ∀ w ∈ tw, w.before ([.ref (ad 0), .int (Int32.ofInt p0), .int (Int32.ofInt p1), .ref o] : List Value).toArray s = true := fun w hw => hts0 w (List.mem_cons_of_mem _ hw)
  have hown : s.vm.findClass RL = some m.cls := findClass_of_methodNamed B.named
  have hl := lv_entry ([.ref (ad 0), .int (Int32.ofInt p0), .int (Int32.ofInt p1), .ref o] : List Value) (n := 5) (Nat.le_of_ble_eq_true rfl)
  rw [lg_entry_eq]
  generalize (lg_sl ([.ref (ad 0), .int (Int32.ofInt p0), .int (Int32.ofInt p1), .ref o] : List Value) ++ List.replicate (5 - (lg_sl ([.ref (ad 0), .int (Int32.ofInt p0), .int (Int32.ofInt p1), .ref o] : List Value)).length) Slot.unset).toArray = ls at hl ⊢
  have hl : lv_has ls 5 [(0, .ref (ad 0)), (1, .int (Int32.ofInt p0)), (2, .int (Int32.ofInt p1)), (3, .ref o)] := hl
  refine lv_aload_n hx hb (by decide +kernel : decode cL_run 0 = .ok (.aload_n 3, 1)) rfl (lv_at hl 3 rfl) ?_
  refine lv_iconst (v := 0) hx hb (by decide +kernel : decode cL_run 1 = .ok (.iconst 0, 1)) (by decide) ?_
  refine lv_aload_n hx hb (by decide +kernel : decode cL_run 2 = .ok (.aload_n 0, 1)) rfl (lv_at hl 0 rfl) ?_
  refine lv_iload_n hx hb (by decide +kernel : decode cL_run 3 = .ok (.iload_n 1, 1)) rfl (lv_at hl 1 rfl) ?_
  refine lv_iload_n hx hb (by decide +kernel : decode cL_run 4 = .ok (.iload_n 2, 1)) rfl (lv_at hl 2 rfl) ?_
  refine call_ret (own := RL) (r := 0) (as := [(0, p0), (0, p1)]) (rest := [.int 0, .ref o]) (t' := t9) ⟨hx, hb, hml, hown, hts⟩ hEV hA va_S.rf hw hM (by unfold OKY; decide +kernel) ml_run rfl (by show 1 + (1 + 0) ≤ 8; decide) hl.1 (by decide +kernel : decode cL_run 5 = .ok (.invokevirtual 15, 3)) (Nat.le_refl _) (Nat.le_refl _) (Nat.zero_le _) (Nat.zero_le _) rfl (fun x v' H1 locs1 hP hrg hw1 hS1 => ?_)
  refine lv_i2l hx hb (by decide +kernel : decode cL_run 8 = .ok (.i2l, 1)) rfl ?_
  refine hw1.store hS1 hx hb hEV.1 (by decide +kernel : decode cL_run 9 = .ok (.lastore, 1)) (fun H2 locs2 hw2 hS2 => ?_)
  refine lv_goto (tgt := 21) hx hb (by decide +kernel : decode cL_run 10 = .ok (.goto 11, 3)) (by decide) ?_
  refine lv_iconst (v := 0) hx hb (by decide +kernel : decode cL_run 21 = .ok (.iconst 0, 1)) (by decide) ?_
  exact vx_ret (W.iret (v := 0) hx hb hr (fun tt ht _ => ⟨⟨0, (x, v', vp_updL f 0 (Int32.ofInt x).toInt64), rfl, ⟨rfl, hP, hrg, rfl⟩, by subst ht; exact hw2⟩, hS2.F ht⟩) hS2.2.2 (by decide +kernel : decode cL_run 22 = .ok (.ireturn, 1)))
set_option maxRecDepth 100000 in
theorem ht_run_1 {l : Launch} {G : va_G} {cA : Nat → ClassId} {E : EE} {A : Nat → Prop} {o : Nat} {ad : Nat → Nat} {d : Nat} {t t9 : Int} {v : Mem} {f : Nat → Int64} {p0 : Int} {p1 : Int} (hM : MT0 l G cA E (B1 A o) ad d 175 [(2, 0), (0, p0), (0, p1)] t v nIS) : vx_Met l yL_run wL_run (rmH d 1 6) (PcH G cA E A o ad t v f [.ref (ad 0), .int (Int32.ofInt p0), .int (Int32.ofInt p1), .ref o]) (QhT G cA E A o ad t v f 1) (noX A) 1 6 A := by
  refine vx_ofWH (cc := cL_run) (maxL := 5) (ret := some .int) (by decide) rfl ?_
  intro p e s m args below meth c s₁ B hml hv
  obtain ⟨rfl, hEV, hXE, hNC, hA, hw⟩ := hv
  have hx := B.exec
  have hb := B.bytes
  have hr := B.returns
  have hlocks := B.notSynchronized
  have hts0 := atoms_spec (ws := wL_run) B.pre
  have hts : ∀ w ∈ tw, w.before ([.ref (ad 0), .int (Int32.ofInt p0), .int (Int32.ofInt p1), .ref o] : List Value).toArray s = true := fun w hw => hts0 w (List.mem_cons_of_mem _ hw)
  have hown : s.vm.findClass RL = some m.cls := findClass_of_methodNamed B.named
  have hl := lv_entry ([.ref (ad 0), .int (Int32.ofInt p0), .int (Int32.ofInt p1), .ref o] : List Value) (n := 5) (Nat.le_of_ble_eq_true rfl)
  rw [lg_entry_eq]
  generalize (lg_sl ([.ref (ad 0), .int (Int32.ofInt p0), .int (Int32.ofInt p1), .ref o] : List Value) ++ List.replicate (5 - (lg_sl ([.ref (ad 0), .int (Int32.ofInt p0), .int (Int32.ofInt p1), .ref o] : List Value)).length) Slot.unset).toArray = ls at hl ⊢
  have hl : lv_has ls 5 [(0, .ref (ad 0)), (1, .int (Int32.ofInt p0)), (2, .int (Int32.ofInt p1)), (3, .ref o)] := hl
  refine lv_aload_n hx hb (by decide +kernel : decode cL_run 0 = .ok (.aload_n 3, 1)) rfl (lv_at hl 3 rfl) ?_
  refine lv_iconst (v := 0) hx hb (by decide +kernel : decode cL_run 1 = .ok (.iconst 0, 1)) (by decide) ?_
  refine lv_aload_n hx hb (by decide +kernel : decode cL_run 2 = .ok (.aload_n 0, 1)) rfl (lv_at hl 0 rfl) ?_
  refine lv_iload_n hx hb (by decide +kernel : decode cL_run 3 = .ok (.iload_n 1, 1)) rfl (lv_at hl 1 rfl) ?_
  refine lv_iload_n hx hb (by decide +kernel : decode cL_run 4 = .ok (.iload_n 2, 1)) rfl (lv_at hl 2 rfl) ?_
  have htab : c.exceptionTable.toList = tableOf [(0, 10, 13, 19), (0, 10, 17, 13)] := vx_table (x := yL_run) B (hts0 _ List.mem_cons_self)
  refine call_thr (own := RL) (r := 0) (as := [(0, p0), (0, p1)]) (rest := [.int 0, .ref o]) (X := nIS) ⟨hx, hb, hml, hown, hts⟩ hEV hXE hA va_S.rf hw hM (by unfold OKY; decide +kernel) ml_run rfl (by show 1 + (1 + 0) ≤ 8; decide) hl.1 (by decide +kernel : decode cL_run 5 = .ok (.invokevirtual 15, 3)) (Nat.le_refl _) (Nat.le_refl _) (Nat.le_refl _) (Nat.le_refl _) rfl (fun ce q9 H1 locs1 hce hcv hcl hw1 hS1 => ?_)
  refine vx_catch (own := RL) (name := nIS) (E := nIS) hown [] ⟨0, 10, 13, 19⟩ [⟨0, 10, 17, 13⟩] (by rw [htab]; rfl) (fun z hz => by cases hz) (by decide) (by decide) (hts _ (tw_of lk_19 rfl)) (va_any rfl (hXE.1 _ cs_s rfl)) hce hcv hcl ?_
  refine lv_astore hx hb (by decide +kernel : decode cL_run 13 = .ok (.astore 4, 2)) hl (by decide) rfl (fun ls9 hl9 => ?_)
  refine lv_iconst (v := 1) hx hb (by decide +kernel : decode cL_run 15 = .ok (.iconst 1, 1)) (by decide) ?_
  exact vx_ret (W.iret (v := 1) hx hb hr (fun tt ht _ => ⟨⟨1, (), rfl, rfl, by subst ht; exact hw1⟩, hS1.F ht⟩) hS1.2.2 (by decide +kernel : decode cL_run 16 = .ok (.ireturn, 1)))
set_option maxRecDepth 100000 in
theorem ht_run_2 {l : Launch} {G : va_G} {cA : Nat → ClassId} {E : EE} {A : Nat → Prop} {o : Nat} {ad : Nat → Nat} {d : Nat} {t t9 : Int} {v : Mem} {f : Nat → Int64} {p0 : Int} {p1 : Int} (hM : MT0 l G cA E (B1 A o) ad d 175 [(2, 0), (0, p0), (0, p1)] t v nIA) : vx_Met l yL_run wL_run (rmH d 1 6) (PcH G cA E A o ad t v f [.ref (ad 0), .int (Int32.ofInt p0), .int (Int32.ofInt p1), .ref o]) (QhT G cA E A o ad t v f 2) (noX A) 1 6 A := by
  refine vx_ofWH (cc := cL_run) (maxL := 5) (ret := some .int) (by decide) rfl ?_
  intro p e s m args below meth c s₁ B hml hv
  obtain ⟨rfl, hEV, hXE, hNC, hA, hw⟩ := hv
  have hx := B.exec
  have hb := B.bytes
  have hr := B.returns
  have hlocks := B.notSynchronized
  have hts0 := atoms_spec (ws := wL_run) B.pre
  have hts : ∀ w ∈ tw, w.before ([.ref (ad 0), .int (Int32.ofInt p0), .int (Int32.ofInt p1), .ref o] : List Value).toArray s = true := fun w hw => hts0 w (List.mem_cons_of_mem _ hw)
  have hown : s.vm.findClass RL = some m.cls := findClass_of_methodNamed B.named
  have hl := lv_entry ([.ref (ad 0), .int (Int32.ofInt p0), .int (Int32.ofInt p1), .ref o] : List Value) (n := 5) (Nat.le_of_ble_eq_true rfl)
  rw [lg_entry_eq]
  generalize (lg_sl ([.ref (ad 0), .int (Int32.ofInt p0), .int (Int32.ofInt p1), .ref o] : List Value) ++ List.replicate (5 - (lg_sl ([.ref (ad 0), .int (Int32.ofInt p0), .int (Int32.ofInt p1), .ref o] : List Value)).length) Slot.unset).toArray = ls at hl ⊢
  have hl : lv_has ls 5 [(0, .ref (ad 0)), (1, .int (Int32.ofInt p0)), (2, .int (Int32.ofInt p1)), (3, .ref o)] := hl
  refine lv_aload_n hx hb (by decide +kernel : decode cL_run 0 = .ok (.aload_n 3, 1)) rfl (lv_at hl 3 rfl) ?_
  refine lv_iconst (v := 0) hx hb (by decide +kernel : decode cL_run 1 = .ok (.iconst 0, 1)) (by decide) ?_
  refine lv_aload_n hx hb (by decide +kernel : decode cL_run 2 = .ok (.aload_n 0, 1)) rfl (lv_at hl 0 rfl) ?_
  refine lv_iload_n hx hb (by decide +kernel : decode cL_run 3 = .ok (.iload_n 1, 1)) rfl (lv_at hl 1 rfl) ?_
  refine lv_iload_n hx hb (by decide +kernel : decode cL_run 4 = .ok (.iload_n 2, 1)) rfl (lv_at hl 2 rfl) ?_
  have htab : c.exceptionTable.toList = tableOf [(0, 10, 13, 19), (0, 10, 17, 13)] := vx_table (x := yL_run) B (hts0 _ List.mem_cons_self)
  refine call_thr (own := RL) (r := 0) (as := [(0, p0), (0, p1)]) (rest := [.int 0, .ref o]) (X := nIA) ⟨hx, hb, hml, hown, hts⟩ hEV hXE hA va_S.rf hw hM (by unfold OKY; decide +kernel) ml_run rfl (by show 1 + (1 + 0) ≤ 8; decide) hl.1 (by decide +kernel : decode cL_run 5 = .ok (.invokevirtual 15, 3)) (Nat.le_refl _) (Nat.le_refl _) (Nat.le_refl _) (Nat.le_refl _) rfl (fun ce q9 H1 locs1 hce hcv hcl hw1 hS1 => ?_)
  refine vx_catch (own := RL) (name := nIA) (E := nIA) hown [⟨0, 10, 13, 19⟩] ⟨0, 10, 17, 13⟩ [] (by rw [htab]; rfl) (fun z hz => by rw [List.mem_singleton.mp hz]; exact Or.inr ⟨by decide, nIS, hts _ (tw_of lk_19 rfl), hNC.1⟩) (by decide) (by decide) (hts _ (tw_of lk_13 rfl)) (va_any rfl (hXE.1 _ cs_a rfl)) hce hcv hcl ?_
  refine lv_astore hx hb (by decide +kernel : decode cL_run 17 = .ok (.astore 4, 2)) hl (by decide) rfl (fun ls9 hl9 => ?_)
  refine lv_iconst (v := 2) hx hb (by decide +kernel : decode cL_run 19 = .ok (.iconst 2, 1)) (by decide) ?_
  exact vx_ret (W.iret (v := 2) hx hb hr (fun tt ht _ => ⟨⟨2, (), rfl, rfl, by subst ht; exact hw1⟩, hS1.F ht⟩) hS1.2.2 (by decide +kernel : decode cL_run 20 = .ok (.ireturn, 1)))
set_option maxRecDepth 100000 in
theorem cw_told : Cond.codeWith yL_told cL_told 4 (some .int) [(0, 9, 12, 19), (0, 9, 15, 13)] ∈ lw_tbl := List.mem_of_getElem? (i := 1345) rfl
set_option maxRecDepth 100000 in
theorem ml_told : Cond.methodLink RL 21 (yn 176) ∈ lw_tbl := List.mem_of_getElem? (i := 1346) rfl
def wL_told : List Cond := Cond.codeWith yL_told cL_told 4 (some .int) [(0, 9, 12, 19), (0, 9, 15, 13)] :: tw
set_option maxRecDepth 100000 in
theorem hr_told {l : Launch} {G : va_G} {cA : Nat → ClassId} {E : EE} {A : Nat → Prop} {o : Nat} {ad : Nat → Nat} {d : Nat} {t t9 : Int} {v : Mem} {f : Nat → Int64} {p0 : Int} {P : Int → Mem → Prop} (hM : MR l G cA E (B1 A o) ad d 176 [(2, 0), (0, p0)] t t9 v P) : vx_Met l yL_told wL_told (rmH d 0 0) (PcH G cA E A o ad t v f [.ref (ad 0), .int (Int32.ofInt p0), .ref o]) (QhR G cA E A o ad t9 P) (noX A) 0 0 A := by
  refine vx_ofWH (cc := cL_told) (maxL := 4) (ret := some .int) (by decide) rfl ?_
  intro p e s m args below meth c s₁ B hml hv
  obtain ⟨rfl, hEV, hXE, hNC, hA, hw⟩ := hv
  have hx := B.exec
  have hb := B.bytes
  have hr := B.returns
  have hlocks := B.notSynchronized
  have hts0 := atoms_spec (ws := wL_told) B.pre
  have hts : ∀ w ∈ tw, w.before ([.ref (ad 0), .int (Int32.ofInt p0), .ref o] : List Value).toArray s = true := fun w hw => hts0 w (List.mem_cons_of_mem _ hw)
  have hown : s.vm.findClass RL = some m.cls := findClass_of_methodNamed B.named
  have hl := lv_entry ([.ref (ad 0), .int (Int32.ofInt p0), .ref o] : List Value) (n := 4) (Nat.le_of_ble_eq_true rfl)
  rw [lg_entry_eq]
  generalize (lg_sl ([.ref (ad 0), .int (Int32.ofInt p0), .ref o] : List Value) ++ List.replicate (4 - (lg_sl ([.ref (ad 0), .int (Int32.ofInt p0), .ref o] : List Value)).length) Slot.unset).toArray = ls at hl ⊢
  have hl : lv_has ls 4 [(0, .ref (ad 0)), (1, .int (Int32.ofInt p0)), (2, .ref o)] := hl
  refine lv_aload_n hx hb (by decide +kernel : decode cL_told 0 = .ok (.aload_n 2, 1)) rfl (lv_at hl 2 rfl) ?_
  refine lv_iconst (v := 0) hx hb (by decide +kernel : decode cL_told 1 = .ok (.iconst 0, 1)) (by decide) ?_
  refine lv_aload_n hx hb (by decide +kernel : decode cL_told 2 = .ok (.aload_n 0, 1)) rfl (lv_at hl 0 rfl) ?_
  refine lv_iload_n hx hb (by decide +kernel : decode cL_told 3 = .ok (.iload_n 1, 1)) rfl (lv_at hl 1 rfl) ?_
  refine call_ret (own := RL) (r := 0) (as := [(0, p0)]) (rest := [.int 0, .ref o]) (t' := t9) ⟨hx, hb, hml, hown, hts⟩ hEV hA va_S.rf hw hM (by unfold OKY; decide +kernel) ml_told rfl (by show 1 + (1 + 0) ≤ 8; decide) hl.1 (by decide +kernel : decode cL_told 4 = .ok (.invokevirtual 21, 3)) (Nat.le_refl _) (Nat.le_refl _) (Nat.zero_le _) (Nat.zero_le _) rfl (fun x v' H1 locs1 hP hrg hw1 hS1 => ?_)
  refine lv_i2l hx hb (by decide +kernel : decode cL_told 7 = .ok (.i2l, 1)) rfl ?_
  refine hw1.store hS1 hx hb hEV.1 (by decide +kernel : decode cL_told 8 = .ok (.lastore, 1)) (fun H2 locs2 hw2 hS2 => ?_)
  refine lv_goto (tgt := 18) hx hb (by decide +kernel : decode cL_told 9 = .ok (.goto 9, 3)) (by decide) ?_
  refine lv_iconst (v := 0) hx hb (by decide +kernel : decode cL_told 18 = .ok (.iconst 0, 1)) (by decide) ?_
  exact vx_ret (W.iret (v := 0) hx hb hr (fun tt ht _ => ⟨⟨0, (x, v', vp_updL f 0 (Int32.ofInt x).toInt64), rfl, ⟨rfl, hP, hrg, rfl⟩, by subst ht; exact hw2⟩, hS2.F ht⟩) hS2.2.2 (by decide +kernel : decode cL_told 19 = .ok (.ireturn, 1)))
set_option maxRecDepth 100000 in
theorem ht_told_1 {l : Launch} {G : va_G} {cA : Nat → ClassId} {E : EE} {A : Nat → Prop} {o : Nat} {ad : Nat → Nat} {d : Nat} {t t9 : Int} {v : Mem} {f : Nat → Int64} {p0 : Int} (hM : MT0 l G cA E (B1 A o) ad d 176 [(2, 0), (0, p0)] t v nIS) : vx_Met l yL_told wL_told (rmH d 1 6) (PcH G cA E A o ad t v f [.ref (ad 0), .int (Int32.ofInt p0), .ref o]) (QhT G cA E A o ad t v f 1) (noX A) 1 6 A := by
  refine vx_ofWH (cc := cL_told) (maxL := 4) (ret := some .int) (by decide) rfl ?_
  intro p e s m args below meth c s₁ B hml hv
  obtain ⟨rfl, hEV, hXE, hNC, hA, hw⟩ := hv
  have hx := B.exec
  have hb := B.bytes
  have hr := B.returns
  have hlocks := B.notSynchronized
  have hts0 := atoms_spec (ws := wL_told) B.pre
  have hts : ∀ w ∈ tw, w.before ([.ref (ad 0), .int (Int32.ofInt p0), .ref o] : List Value).toArray s = true := fun w hw => hts0 w (List.mem_cons_of_mem _ hw)
  have hown : s.vm.findClass RL = some m.cls := findClass_of_methodNamed B.named
  have hl := lv_entry ([.ref (ad 0), .int (Int32.ofInt p0), .ref o] : List Value) (n := 4) (Nat.le_of_ble_eq_true rfl)
  rw [lg_entry_eq]
  generalize (lg_sl ([.ref (ad 0), .int (Int32.ofInt p0), .ref o] : List Value) ++ List.replicate (4 - (lg_sl ([.ref (ad 0), .int (Int32.ofInt p0), .ref o] : List Value)).length) Slot.unset).toArray = ls at hl ⊢
  have hl : lv_has ls 4 [(0, .ref (ad 0)), (1, .int (Int32.ofInt p0)), (2, .ref o)] := hl
  refine lv_aload_n hx hb (by decide +kernel : decode cL_told 0 = .ok (.aload_n 2, 1)) rfl (lv_at hl 2 rfl) ?_
  refine lv_iconst (v := 0) hx hb (by decide +kernel : decode cL_told 1 = .ok (.iconst 0, 1)) (by decide) ?_
  refine lv_aload_n hx hb (by decide +kernel : decode cL_told 2 = .ok (.aload_n 0, 1)) rfl (lv_at hl 0 rfl) ?_
  refine lv_iload_n hx hb (by decide +kernel : decode cL_told 3 = .ok (.iload_n 1, 1)) rfl (lv_at hl 1 rfl) ?_
  have htab : c.exceptionTable.toList = tableOf [(0, 9, 12, 19), (0, 9, 15, 13)] := vx_table (x := yL_told) B (hts0 _ List.mem_cons_self)
  refine call_thr (own := RL) (r := 0) (as := [(0, p0)]) (rest := [.int 0, .ref o]) (X := nIS) ⟨hx, hb, hml, hown, hts⟩ hEV hXE hA va_S.rf hw hM (by unfold OKY; decide +kernel) ml_told rfl (by show 1 + (1 + 0) ≤ 8; decide) hl.1 (by decide +kernel : decode cL_told 4 = .ok (.invokevirtual 21, 3)) (Nat.le_refl _) (Nat.le_refl _) (Nat.le_refl _) (Nat.le_refl _) rfl (fun ce q9 H1 locs1 hce hcv hcl hw1 hS1 => ?_)
  refine vx_catch (own := RL) (name := nIS) (E := nIS) hown [] ⟨0, 9, 12, 19⟩ [⟨0, 9, 15, 13⟩] (by rw [htab]; rfl) (fun z hz => by cases hz) (by decide) (by decide) (hts _ (tw_of lk_19 rfl)) (va_any rfl (hXE.1 _ cs_s rfl)) hce hcv hcl ?_
  refine lv_astore_n hx hb (by decide +kernel : decode cL_told 12 = .ok (.astore_n 3, 1)) rfl hl (by decide) rfl (fun ls9 hl9 => ?_)
  refine lv_iconst (v := 1) hx hb (by decide +kernel : decode cL_told 13 = .ok (.iconst 1, 1)) (by decide) ?_
  exact vx_ret (W.iret (v := 1) hx hb hr (fun tt ht _ => ⟨⟨1, (), rfl, rfl, by subst ht; exact hw1⟩, hS1.F ht⟩) hS1.2.2 (by decide +kernel : decode cL_told 14 = .ok (.ireturn, 1)))
set_option maxRecDepth 100000 in
theorem ht_told_2 {l : Launch} {G : va_G} {cA : Nat → ClassId} {E : EE} {A : Nat → Prop} {o : Nat} {ad : Nat → Nat} {d : Nat} {t t9 : Int} {v : Mem} {f : Nat → Int64} {p0 : Int} (hM : MT0 l G cA E (B1 A o) ad d 176 [(2, 0), (0, p0)] t v nIA) : vx_Met l yL_told wL_told (rmH d 1 6) (PcH G cA E A o ad t v f [.ref (ad 0), .int (Int32.ofInt p0), .ref o]) (QhT G cA E A o ad t v f 2) (noX A) 1 6 A := by
  refine vx_ofWH (cc := cL_told) (maxL := 4) (ret := some .int) (by decide) rfl ?_
  intro p e s m args below meth c s₁ B hml hv
  obtain ⟨rfl, hEV, hXE, hNC, hA, hw⟩ := hv
  have hx := B.exec
  have hb := B.bytes
  have hr := B.returns
  have hlocks := B.notSynchronized
  have hts0 := atoms_spec (ws := wL_told) B.pre
  have hts : ∀ w ∈ tw, w.before ([.ref (ad 0), .int (Int32.ofInt p0), .ref o] : List Value).toArray s = true := fun w hw => hts0 w (List.mem_cons_of_mem _ hw)
  have hown : s.vm.findClass RL = some m.cls := findClass_of_methodNamed B.named
  have hl := lv_entry ([.ref (ad 0), .int (Int32.ofInt p0), .ref o] : List Value) (n := 4) (Nat.le_of_ble_eq_true rfl)
  rw [lg_entry_eq]
  generalize (lg_sl ([.ref (ad 0), .int (Int32.ofInt p0), .ref o] : List Value) ++ List.replicate (4 - (lg_sl ([.ref (ad 0), .int (Int32.ofInt p0), .ref o] : List Value)).length) Slot.unset).toArray = ls at hl ⊢
  have hl : lv_has ls 4 [(0, .ref (ad 0)), (1, .int (Int32.ofInt p0)), (2, .ref o)] := hl
  refine lv_aload_n hx hb (by decide +kernel : decode cL_told 0 = .ok (.aload_n 2, 1)) rfl (lv_at hl 2 rfl) ?_
  refine lv_iconst (v := 0) hx hb (by decide +kernel : decode cL_told 1 = .ok (.iconst 0, 1)) (by decide) ?_
  refine lv_aload_n hx hb (by decide +kernel : decode cL_told 2 = .ok (.aload_n 0, 1)) rfl (lv_at hl 0 rfl) ?_
  refine lv_iload_n hx hb (by decide +kernel : decode cL_told 3 = .ok (.iload_n 1, 1)) rfl (lv_at hl 1 rfl) ?_
  have htab : c.exceptionTable.toList = tableOf [(0, 9, 12, 19), (0, 9, 15, 13)] := vx_table (x := yL_told) B (hts0 _ List.mem_cons_self)
  refine call_thr (own := RL) (r := 0) (as := [(0, p0)]) (rest := [.int 0, .ref o]) (X := nIA) ⟨hx, hb, hml, hown, hts⟩ hEV hXE hA va_S.rf hw hM (by unfold OKY; decide +kernel) ml_told rfl (by show 1 + (1 + 0) ≤ 8; decide) hl.1 (by decide +kernel : decode cL_told 4 = .ok (.invokevirtual 21, 3)) (Nat.le_refl _) (Nat.le_refl _) (Nat.le_refl _) (Nat.le_refl _) rfl (fun ce q9 H1 locs1 hce hcv hcl hw1 hS1 => ?_)
  refine vx_catch (own := RL) (name := nIA) (E := nIA) hown [⟨0, 9, 12, 19⟩] ⟨0, 9, 15, 13⟩ [] (by rw [htab]; rfl) (fun z hz => by rw [List.mem_singleton.mp hz]; exact Or.inr ⟨by decide, nIS, hts _ (tw_of lk_19 rfl), hNC.1⟩) (by decide) (by decide) (hts _ (tw_of lk_13 rfl)) (va_any rfl (hXE.1 _ cs_a rfl)) hce hcv hcl ?_
  refine lv_astore_n hx hb (by decide +kernel : decode cL_told 15 = .ok (.astore_n 3, 1)) rfl hl (by decide) rfl (fun ls9 hl9 => ?_)
  refine lv_iconst (v := 2) hx hb (by decide +kernel : decode cL_told 16 = .ok (.iconst 2, 1)) (by decide) ?_
  exact vx_ret (W.iret (v := 2) hx hb hr (fun tt ht _ => ⟨⟨2, (), rfl, rfl, by subst ht; exact hw1⟩, hS1.F ht⟩) hS1.2.2 (by decide +kernel : decode cL_told 17 = .ok (.ireturn, 1)))
set_option maxRecDepth 100000 in
theorem cw_letter : Cond.codeWith yL_letter cL_letter 4 (some .int) [(0, 9, 12, 19)] ∈ lw_tbl := List.mem_of_getElem? (i := 1390) rfl
set_option maxRecDepth 100000 in
theorem ml_letter : Cond.methodLink RL 25 (yn 177) ∈ lw_tbl := List.mem_of_getElem? (i := 1391) rfl
def wL_letter : List Cond := Cond.codeWith yL_letter cL_letter 4 (some .int) [(0, 9, 12, 19)] :: tw
set_option maxRecDepth 100000 in
theorem hr_letter {l : Launch} {G : va_G} {cA : Nat → ClassId} {E : EE} {A : Nat → Prop} {o : Nat} {ad : Nat → Nat} {d : Nat} {t t9 : Int} {v : Mem} {f : Nat → Int64} {p0 : Int} {P : Int → Mem → Prop} (hM : MR l G cA E (B1 A o) ad d 177 [(2, 0), (0, p0)] t t9 v P) : vx_Met l yL_letter wL_letter (rmH d 0 0) (PcH G cA E A o ad t v f [.ref (ad 0), .int (Int32.ofInt p0), .ref o]) (QhR G cA E A o ad t9 P) (noX A) 0 0 A := by
  refine vx_ofWH (cc := cL_letter) (maxL := 4) (ret := some .int) (by decide) rfl ?_
  intro p e s m args below meth c s₁ B hml hv
  obtain ⟨rfl, hEV, hXE, hNC, hA, hw⟩ := hv
  have hx := B.exec
  have hb := B.bytes
  have hr := B.returns
  have hlocks := B.notSynchronized
  have hts0 := atoms_spec (ws := wL_letter) B.pre
  have hts : ∀ w ∈ tw, w.before ([.ref (ad 0), .int (Int32.ofInt p0), .ref o] : List Value).toArray s = true := fun w hw => hts0 w (List.mem_cons_of_mem _ hw)
  have hown : s.vm.findClass RL = some m.cls := findClass_of_methodNamed B.named
  have hl := lv_entry ([.ref (ad 0), .int (Int32.ofInt p0), .ref o] : List Value) (n := 4) (Nat.le_of_ble_eq_true rfl)
  rw [lg_entry_eq]
  generalize (lg_sl ([.ref (ad 0), .int (Int32.ofInt p0), .ref o] : List Value) ++ List.replicate (4 - (lg_sl ([.ref (ad 0), .int (Int32.ofInt p0), .ref o] : List Value)).length) Slot.unset).toArray = ls at hl ⊢
  have hl : lv_has ls 4 [(0, .ref (ad 0)), (1, .int (Int32.ofInt p0)), (2, .ref o)] := hl
  refine lv_aload_n hx hb (by decide +kernel : decode cL_letter 0 = .ok (.aload_n 2, 1)) rfl (lv_at hl 2 rfl) ?_
  refine lv_iconst (v := 0) hx hb (by decide +kernel : decode cL_letter 1 = .ok (.iconst 0, 1)) (by decide) ?_
  refine lv_aload_n hx hb (by decide +kernel : decode cL_letter 2 = .ok (.aload_n 0, 1)) rfl (lv_at hl 0 rfl) ?_
  refine lv_iload_n hx hb (by decide +kernel : decode cL_letter 3 = .ok (.iload_n 1, 1)) rfl (lv_at hl 1 rfl) ?_
  refine call_ret (own := RL) (r := 0) (as := [(0, p0)]) (rest := [.int 0, .ref o]) (t' := t9) ⟨hx, hb, hml, hown, hts⟩ hEV hA va_S.rf hw hM (by unfold OKY; decide +kernel) ml_letter rfl (by show 1 + (1 + 0) ≤ 8; decide) hl.1 (by decide +kernel : decode cL_letter 4 = .ok (.invokevirtual 25, 3)) (Nat.le_refl _) (Nat.le_refl _) (Nat.zero_le _) (Nat.zero_le _) rfl (fun x v' H1 locs1 hP hrg hw1 hS1 => ?_)
  refine lv_i2l hx hb (by decide +kernel : decode cL_letter 7 = .ok (.i2l, 1)) rfl ?_
  refine hw1.store hS1 hx hb hEV.1 (by decide +kernel : decode cL_letter 8 = .ok (.lastore, 1)) (fun H2 locs2 hw2 hS2 => ?_)
  refine lv_goto (tgt := 15) hx hb (by decide +kernel : decode cL_letter 9 = .ok (.goto 6, 3)) (by decide) ?_
  refine lv_iconst (v := 0) hx hb (by decide +kernel : decode cL_letter 15 = .ok (.iconst 0, 1)) (by decide) ?_
  exact vx_ret (W.iret (v := 0) hx hb hr (fun tt ht _ => ⟨⟨0, (x, v', vp_updL f 0 (Int32.ofInt x).toInt64), rfl, ⟨rfl, hP, hrg, rfl⟩, by subst ht; exact hw2⟩, hS2.F ht⟩) hS2.2.2 (by decide +kernel : decode cL_letter 16 = .ok (.ireturn, 1)))
set_option maxRecDepth 100000 in
theorem ht_letter_1 {l : Launch} {G : va_G} {cA : Nat → ClassId} {E : EE} {A : Nat → Prop} {o : Nat} {ad : Nat → Nat} {d : Nat} {t t9 : Int} {v : Mem} {f : Nat → Int64} {p0 : Int} (hM : MT0 l G cA E (B1 A o) ad d 177 [(2, 0), (0, p0)] t v nIS) : vx_Met l yL_letter wL_letter (rmH d 1 6) (PcH G cA E A o ad t v f [.ref (ad 0), .int (Int32.ofInt p0), .ref o]) (QhT G cA E A o ad t v f 1) (noX A) 1 6 A := by
  refine vx_ofWH (cc := cL_letter) (maxL := 4) (ret := some .int) (by decide) rfl ?_
  intro p e s m args below meth c s₁ B hml hv
  obtain ⟨rfl, hEV, hXE, hNC, hA, hw⟩ := hv
  have hx := B.exec
  have hb := B.bytes
  have hr := B.returns
  have hlocks := B.notSynchronized
  have hts0 := atoms_spec (ws := wL_letter) B.pre
  have hts : ∀ w ∈ tw, w.before ([.ref (ad 0), .int (Int32.ofInt p0), .ref o] : List Value).toArray s = true := fun w hw => hts0 w (List.mem_cons_of_mem _ hw)
  have hown : s.vm.findClass RL = some m.cls := findClass_of_methodNamed B.named
  have hl := lv_entry ([.ref (ad 0), .int (Int32.ofInt p0), .ref o] : List Value) (n := 4) (Nat.le_of_ble_eq_true rfl)
  rw [lg_entry_eq]
  generalize (lg_sl ([.ref (ad 0), .int (Int32.ofInt p0), .ref o] : List Value) ++ List.replicate (4 - (lg_sl ([.ref (ad 0), .int (Int32.ofInt p0), .ref o] : List Value)).length) Slot.unset).toArray = ls at hl ⊢
  have hl : lv_has ls 4 [(0, .ref (ad 0)), (1, .int (Int32.ofInt p0)), (2, .ref o)] := hl
  refine lv_aload_n hx hb (by decide +kernel : decode cL_letter 0 = .ok (.aload_n 2, 1)) rfl (lv_at hl 2 rfl) ?_
  refine lv_iconst (v := 0) hx hb (by decide +kernel : decode cL_letter 1 = .ok (.iconst 0, 1)) (by decide) ?_
  refine lv_aload_n hx hb (by decide +kernel : decode cL_letter 2 = .ok (.aload_n 0, 1)) rfl (lv_at hl 0 rfl) ?_
  refine lv_iload_n hx hb (by decide +kernel : decode cL_letter 3 = .ok (.iload_n 1, 1)) rfl (lv_at hl 1 rfl) ?_
  have htab : c.exceptionTable.toList = tableOf [(0, 9, 12, 19)] := vx_table (x := yL_letter) B (hts0 _ List.mem_cons_self)
  refine call_thr (own := RL) (r := 0) (as := [(0, p0)]) (rest := [.int 0, .ref o]) (X := nIS) ⟨hx, hb, hml, hown, hts⟩ hEV hXE hA va_S.rf hw hM (by unfold OKY; decide +kernel) ml_letter rfl (by show 1 + (1 + 0) ≤ 8; decide) hl.1 (by decide +kernel : decode cL_letter 4 = .ok (.invokevirtual 25, 3)) (Nat.le_refl _) (Nat.le_refl _) (Nat.le_refl _) (Nat.le_refl _) rfl (fun ce q9 H1 locs1 hce hcv hcl hw1 hS1 => ?_)
  refine vx_catch (own := RL) (name := nIS) (E := nIS) hown [] ⟨0, 9, 12, 19⟩ [] (by rw [htab]; rfl) (fun z hz => by cases hz) (by decide) (by decide) (hts _ (tw_of lk_19 rfl)) (va_any rfl (hXE.1 _ cs_s rfl)) hce hcv hcl ?_
  refine lv_astore_n hx hb (by decide +kernel : decode cL_letter 12 = .ok (.astore_n 3, 1)) rfl hl (by decide) rfl (fun ls9 hl9 => ?_)
  refine lv_iconst (v := 1) hx hb (by decide +kernel : decode cL_letter 13 = .ok (.iconst 1, 1)) (by decide) ?_
  exact vx_ret (W.iret (v := 1) hx hb hr (fun tt ht _ => ⟨⟨1, (), rfl, rfl, by subst ht; exact hw1⟩, hS1.F ht⟩) hS1.2.2 (by decide +kernel : decode cL_letter 14 = .ok (.ireturn, 1)))
set_option maxRecDepth 100000 in
theorem cw_whose : Cond.codeWith yL_whose cL_whose 4 (some .int) [(0, 9, 12, 19), (0, 9, 15, 31)] ∈ lw_tbl := List.mem_of_getElem? (i := 1398) rfl
set_option maxRecDepth 100000 in
theorem ml_whose : Cond.methodLink RL 28 (yn 178) ∈ lw_tbl := List.mem_of_getElem? (i := 1400) rfl
def wL_whose : List Cond := Cond.codeWith yL_whose cL_whose 4 (some .int) [(0, 9, 12, 19), (0, 9, 15, 31)] :: tw
set_option maxRecDepth 100000 in
theorem hr_whose {l : Launch} {G : va_G} {cA : Nat → ClassId} {E : EE} {A : Nat → Prop} {o : Nat} {ad : Nat → Nat} {d : Nat} {t t9 : Int} {v : Mem} {f : Nat → Int64} {p0 : Int} {P : Int → Mem → Prop} (hM : MR l G cA E (B1 A o) ad d 178 [(2, 0), (0, p0)] t t9 v P) : vx_Met l yL_whose wL_whose (rmH d 0 0) (PcH G cA E A o ad t v f [.ref (ad 0), .int (Int32.ofInt p0), .ref o]) (QhR G cA E A o ad t9 P) (noX A) 0 0 A := by
  refine vx_ofWH (cc := cL_whose) (maxL := 4) (ret := some .int) (by decide) rfl ?_
  intro p e s m args below meth c s₁ B hml hv
  obtain ⟨rfl, hEV, hXE, hNC, hA, hw⟩ := hv
  have hx := B.exec
  have hb := B.bytes
  have hr := B.returns
  have hlocks := B.notSynchronized
  have hts0 := atoms_spec (ws := wL_whose) B.pre
  have hts : ∀ w ∈ tw, w.before ([.ref (ad 0), .int (Int32.ofInt p0), .ref o] : List Value).toArray s = true := fun w hw => hts0 w (List.mem_cons_of_mem _ hw)
  have hown : s.vm.findClass RL = some m.cls := findClass_of_methodNamed B.named
  have hl := lv_entry ([.ref (ad 0), .int (Int32.ofInt p0), .ref o] : List Value) (n := 4) (Nat.le_of_ble_eq_true rfl)
  rw [lg_entry_eq]
  generalize (lg_sl ([.ref (ad 0), .int (Int32.ofInt p0), .ref o] : List Value) ++ List.replicate (4 - (lg_sl ([.ref (ad 0), .int (Int32.ofInt p0), .ref o] : List Value)).length) Slot.unset).toArray = ls at hl ⊢
  have hl : lv_has ls 4 [(0, .ref (ad 0)), (1, .int (Int32.ofInt p0)), (2, .ref o)] := hl
  refine lv_aload_n hx hb (by decide +kernel : decode cL_whose 0 = .ok (.aload_n 2, 1)) rfl (lv_at hl 2 rfl) ?_
  refine lv_iconst (v := 0) hx hb (by decide +kernel : decode cL_whose 1 = .ok (.iconst 0, 1)) (by decide) ?_
  refine lv_aload_n hx hb (by decide +kernel : decode cL_whose 2 = .ok (.aload_n 0, 1)) rfl (lv_at hl 0 rfl) ?_
  refine lv_iload_n hx hb (by decide +kernel : decode cL_whose 3 = .ok (.iload_n 1, 1)) rfl (lv_at hl 1 rfl) ?_
  refine call_ret (own := RL) (r := 0) (as := [(0, p0)]) (rest := [.int 0, .ref o]) (t' := t9) ⟨hx, hb, hml, hown, hts⟩ hEV hA va_S.rf hw hM (by unfold OKY; decide +kernel) ml_whose rfl (by show 1 + (1 + 0) ≤ 8; decide) hl.1 (by decide +kernel : decode cL_whose 4 = .ok (.invokevirtual 28, 3)) (Nat.le_refl _) (Nat.le_refl _) (Nat.zero_le _) (Nat.zero_le _) rfl (fun x v' H1 locs1 hP hrg hw1 hS1 => ?_)
  refine lv_i2l hx hb (by decide +kernel : decode cL_whose 7 = .ok (.i2l, 1)) rfl ?_
  refine hw1.store hS1 hx hb hEV.1 (by decide +kernel : decode cL_whose 8 = .ok (.lastore, 1)) (fun H2 locs2 hw2 hS2 => ?_)
  refine lv_goto (tgt := 18) hx hb (by decide +kernel : decode cL_whose 9 = .ok (.goto 9, 3)) (by decide) ?_
  refine lv_iconst (v := 0) hx hb (by decide +kernel : decode cL_whose 18 = .ok (.iconst 0, 1)) (by decide) ?_
  exact vx_ret (W.iret (v := 0) hx hb hr (fun tt ht _ => ⟨⟨0, (x, v', vp_updL f 0 (Int32.ofInt x).toInt64), rfl, ⟨rfl, hP, hrg, rfl⟩, by subst ht; exact hw2⟩, hS2.F ht⟩) hS2.2.2 (by decide +kernel : decode cL_whose 19 = .ok (.ireturn, 1)))
set_option maxRecDepth 100000 in
theorem ht_whose_1 {l : Launch} {G : va_G} {cA : Nat → ClassId} {E : EE} {A : Nat → Prop} {o : Nat} {ad : Nat → Nat} {d : Nat} {t t9 : Int} {v : Mem} {f : Nat → Int64} {p0 : Int} (hM : MT0 l G cA E (B1 A o) ad d 178 [(2, 0), (0, p0)] t v nIS) : vx_Met l yL_whose wL_whose (rmH d 1 6) (PcH G cA E A o ad t v f [.ref (ad 0), .int (Int32.ofInt p0), .ref o]) (QhT G cA E A o ad t v f 1) (noX A) 1 6 A := by
  refine vx_ofWH (cc := cL_whose) (maxL := 4) (ret := some .int) (by decide) rfl ?_
  intro p e s m args below meth c s₁ B hml hv
  obtain ⟨rfl, hEV, hXE, hNC, hA, hw⟩ := hv
  have hx := B.exec
  have hb := B.bytes
  have hr := B.returns
  have hlocks := B.notSynchronized
  have hts0 := atoms_spec (ws := wL_whose) B.pre
  have hts : ∀ w ∈ tw, w.before ([.ref (ad 0), .int (Int32.ofInt p0), .ref o] : List Value).toArray s = true := fun w hw => hts0 w (List.mem_cons_of_mem _ hw)
  have hown : s.vm.findClass RL = some m.cls := findClass_of_methodNamed B.named
  have hl := lv_entry ([.ref (ad 0), .int (Int32.ofInt p0), .ref o] : List Value) (n := 4) (Nat.le_of_ble_eq_true rfl)
  rw [lg_entry_eq]
  generalize (lg_sl ([.ref (ad 0), .int (Int32.ofInt p0), .ref o] : List Value) ++ List.replicate (4 - (lg_sl ([.ref (ad 0), .int (Int32.ofInt p0), .ref o] : List Value)).length) Slot.unset).toArray = ls at hl ⊢
  have hl : lv_has ls 4 [(0, .ref (ad 0)), (1, .int (Int32.ofInt p0)), (2, .ref o)] := hl
  refine lv_aload_n hx hb (by decide +kernel : decode cL_whose 0 = .ok (.aload_n 2, 1)) rfl (lv_at hl 2 rfl) ?_
  refine lv_iconst (v := 0) hx hb (by decide +kernel : decode cL_whose 1 = .ok (.iconst 0, 1)) (by decide) ?_
  refine lv_aload_n hx hb (by decide +kernel : decode cL_whose 2 = .ok (.aload_n 0, 1)) rfl (lv_at hl 0 rfl) ?_
  refine lv_iload_n hx hb (by decide +kernel : decode cL_whose 3 = .ok (.iload_n 1, 1)) rfl (lv_at hl 1 rfl) ?_
  have htab : c.exceptionTable.toList = tableOf [(0, 9, 12, 19), (0, 9, 15, 31)] := vx_table (x := yL_whose) B (hts0 _ List.mem_cons_self)
  refine call_thr (own := RL) (r := 0) (as := [(0, p0)]) (rest := [.int 0, .ref o]) (X := nIS) ⟨hx, hb, hml, hown, hts⟩ hEV hXE hA va_S.rf hw hM (by unfold OKY; decide +kernel) ml_whose rfl (by show 1 + (1 + 0) ≤ 8; decide) hl.1 (by decide +kernel : decode cL_whose 4 = .ok (.invokevirtual 28, 3)) (Nat.le_refl _) (Nat.le_refl _) (Nat.le_refl _) (Nat.le_refl _) rfl (fun ce q9 H1 locs1 hce hcv hcl hw1 hS1 => ?_)
  refine vx_catch (own := RL) (name := nIS) (E := nIS) hown [] ⟨0, 9, 12, 19⟩ [⟨0, 9, 15, 31⟩] (by rw [htab]; rfl) (fun z hz => by cases hz) (by decide) (by decide) (hts _ (tw_of lk_19 rfl)) (va_any rfl (hXE.1 _ cs_s rfl)) hce hcv hcl ?_
  refine lv_astore_n hx hb (by decide +kernel : decode cL_whose 12 = .ok (.astore_n 3, 1)) rfl hl (by decide) rfl (fun ls9 hl9 => ?_)
  refine lv_iconst (v := 1) hx hb (by decide +kernel : decode cL_whose 13 = .ok (.iconst 1, 1)) (by decide) ?_
  exact vx_ret (W.iret (v := 1) hx hb hr (fun tt ht _ => ⟨⟨1, (), rfl, rfl, by subst ht; exact hw1⟩, hS1.F ht⟩) hS1.2.2 (by decide +kernel : decode cL_whose 14 = .ok (.ireturn, 1)))
set_option maxRecDepth 100000 in
theorem ht_whose_2 {l : Launch} {G : va_G} {cA : Nat → ClassId} {E : EE} {A : Nat → Prop} {o : Nat} {ad : Nat → Nat} {d : Nat} {t t9 : Int} {v : Mem} {f : Nat → Int64} {p0 : Int} (hM : MT0 l G cA E (B1 A o) ad d 178 [(2, 0), (0, p0)] t v nIB) : vx_Met l yL_whose wL_whose (rmH d 1 6) (PcH G cA E A o ad t v f [.ref (ad 0), .int (Int32.ofInt p0), .ref o]) (QhT G cA E A o ad t v f 2) (noX A) 1 6 A := by
  refine vx_ofWH (cc := cL_whose) (maxL := 4) (ret := some .int) (by decide) rfl ?_
  intro p e s m args below meth c s₁ B hml hv
  obtain ⟨rfl, hEV, hXE, hNC, hA, hw⟩ := hv
  have hx := B.exec
  have hb := B.bytes
  have hr := B.returns
  have hlocks := B.notSynchronized
  have hts0 := atoms_spec (ws := wL_whose) B.pre
  have hts : ∀ w ∈ tw, w.before ([.ref (ad 0), .int (Int32.ofInt p0), .ref o] : List Value).toArray s = true := fun w hw => hts0 w (List.mem_cons_of_mem _ hw)
  have hown : s.vm.findClass RL = some m.cls := findClass_of_methodNamed B.named
  have hl := lv_entry ([.ref (ad 0), .int (Int32.ofInt p0), .ref o] : List Value) (n := 4) (Nat.le_of_ble_eq_true rfl)
  rw [lg_entry_eq]
  generalize (lg_sl ([.ref (ad 0), .int (Int32.ofInt p0), .ref o] : List Value) ++ List.replicate (4 - (lg_sl ([.ref (ad 0), .int (Int32.ofInt p0), .ref o] : List Value)).length) Slot.unset).toArray = ls at hl ⊢
  have hl : lv_has ls 4 [(0, .ref (ad 0)), (1, .int (Int32.ofInt p0)), (2, .ref o)] := hl
  refine lv_aload_n hx hb (by decide +kernel : decode cL_whose 0 = .ok (.aload_n 2, 1)) rfl (lv_at hl 2 rfl) ?_
  refine lv_iconst (v := 0) hx hb (by decide +kernel : decode cL_whose 1 = .ok (.iconst 0, 1)) (by decide) ?_
  refine lv_aload_n hx hb (by decide +kernel : decode cL_whose 2 = .ok (.aload_n 0, 1)) rfl (lv_at hl 0 rfl) ?_
  refine lv_iload_n hx hb (by decide +kernel : decode cL_whose 3 = .ok (.iload_n 1, 1)) rfl (lv_at hl 1 rfl) ?_
  have htab : c.exceptionTable.toList = tableOf [(0, 9, 12, 19), (0, 9, 15, 31)] := vx_table (x := yL_whose) B (hts0 _ List.mem_cons_self)
  refine call_thr (own := RL) (r := 0) (as := [(0, p0)]) (rest := [.int 0, .ref o]) (X := nIB) ⟨hx, hb, hml, hown, hts⟩ hEV hXE hA va_S.rf hw hM (by unfold OKY; decide +kernel) ml_whose rfl (by show 1 + (1 + 0) ≤ 8; decide) hl.1 (by decide +kernel : decode cL_whose 4 = .ok (.invokevirtual 28, 3)) (Nat.le_refl _) (Nat.le_refl _) (Nat.le_refl _) (Nat.le_refl _) rfl (fun ce q9 H1 locs1 hce hcv hcl hw1 hS1 => ?_)
  refine vx_catch (own := RL) (name := nIB) (E := nIB) hown [⟨0, 9, 12, 19⟩] ⟨0, 9, 15, 31⟩ [] (by rw [htab]; rfl) (fun z hz => by rw [List.mem_singleton.mp hz]; exact Or.inr ⟨by decide, nIS, hts _ (tw_of lk_19 rfl), hNC.2⟩) (by decide) (by decide) (hts _ (tw_of lk_31 rfl)) (va_any rfl (hXE.1 _ cs_b rfl)) hce hcv hcl ?_
  refine lv_astore_n hx hb (by decide +kernel : decode cL_whose 15 = .ok (.astore_n 3, 1)) rfl hl (by decide) rfl (fun ls9 hl9 => ?_)
  refine lv_iconst (v := 2) hx hb (by decide +kernel : decode cL_whose 16 = .ok (.iconst 2, 1)) (by decide) ?_
  exact vx_ret (W.iret (v := 2) hx hb hr (fun tt ht _ => ⟨⟨2, (), rfl, rfl, by subst ht; exact hw1⟩, hS1.F ht⟩) hS1.2.2 (by decide +kernel : decode cL_whose 17 = .ok (.ireturn, 1)))
set_option maxRecDepth 100000 in
theorem cw_wrong : Cond.codeWith yL_wrong cL_wrong 3 (some .int) [(0, 8, 11, 19)] ∈ lw_tbl := List.mem_of_getElem? (i := 1430) rfl
set_option maxRecDepth 100000 in
theorem ml_wrong : Cond.methodLink RL 33 (yn 179) ∈ lw_tbl := List.mem_of_getElem? (i := 1431) rfl
def wL_wrong : List Cond := Cond.codeWith yL_wrong cL_wrong 3 (some .int) [(0, 8, 11, 19)] :: tw
set_option maxRecDepth 100000 in
theorem hr_wrong {l : Launch} {G : va_G} {cA : Nat → ClassId} {E : EE} {A : Nat → Prop} {o : Nat} {ad : Nat → Nat} {d : Nat} {t t9 : Int} {v : Mem} {f : Nat → Int64} {P : Int → Mem → Prop} (hM : MR l G cA E (B1 A o) ad d 179 [(2, 0)] t t9 v P) : vx_Met l yL_wrong wL_wrong (rmH d 0 0) (PcH G cA E A o ad t v f [.ref (ad 0), .ref o]) (QhR G cA E A o ad t9 P) (noX A) 0 0 A := by
  refine vx_ofWH (cc := cL_wrong) (maxL := 3) (ret := some .int) (by decide) rfl ?_
  intro p e s m args below meth c s₁ B hml hv
  obtain ⟨rfl, hEV, hXE, hNC, hA, hw⟩ := hv
  have hx := B.exec
  have hb := B.bytes
  have hr := B.returns
  have hlocks := B.notSynchronized
  have hts0 := atoms_spec (ws := wL_wrong) B.pre
  have hts : ∀ w ∈ tw, w.before ([.ref (ad 0), .ref o] : List Value).toArray s = true := fun w hw => hts0 w (List.mem_cons_of_mem _ hw)
  have hown : s.vm.findClass RL = some m.cls := findClass_of_methodNamed B.named
  have hl := lv_entry ([.ref (ad 0), .ref o] : List Value) (n := 3) (Nat.le_of_ble_eq_true rfl)
  rw [lg_entry_eq]
  generalize (lg_sl ([.ref (ad 0), .ref o] : List Value) ++ List.replicate (3 - (lg_sl ([.ref (ad 0), .ref o] : List Value)).length) Slot.unset).toArray = ls at hl ⊢
  have hl : lv_has ls 3 [(0, .ref (ad 0)), (1, .ref o)] := hl
  refine lv_aload_n hx hb (by decide +kernel : decode cL_wrong 0 = .ok (.aload_n 1, 1)) rfl (lv_at hl 1 rfl) ?_
  refine lv_iconst (v := 0) hx hb (by decide +kernel : decode cL_wrong 1 = .ok (.iconst 0, 1)) (by decide) ?_
  refine lv_aload_n hx hb (by decide +kernel : decode cL_wrong 2 = .ok (.aload_n 0, 1)) rfl (lv_at hl 0 rfl) ?_
  refine call_ret (own := RL) (r := 0) (as := []) (rest := [.int 0, .ref o]) (t' := t9) ⟨hx, hb, hml, hown, hts⟩ hEV hA va_S.rf hw hM (by unfold OKY; decide +kernel) ml_wrong rfl (by show 1 + (1 + 0) ≤ 8; decide) hl.1 (by decide +kernel : decode cL_wrong 3 = .ok (.invokevirtual 33, 3)) (Nat.le_refl _) (Nat.le_refl _) (Nat.zero_le _) (Nat.zero_le _) rfl (fun x v' H1 locs1 hP hrg hw1 hS1 => ?_)
  refine lv_i2l hx hb (by decide +kernel : decode cL_wrong 6 = .ok (.i2l, 1)) rfl ?_
  refine hw1.store hS1 hx hb hEV.1 (by decide +kernel : decode cL_wrong 7 = .ok (.lastore, 1)) (fun H2 locs2 hw2 hS2 => ?_)
  refine lv_goto (tgt := 14) hx hb (by decide +kernel : decode cL_wrong 8 = .ok (.goto 6, 3)) (by decide) ?_
  refine lv_iconst (v := 0) hx hb (by decide +kernel : decode cL_wrong 14 = .ok (.iconst 0, 1)) (by decide) ?_
  exact vx_ret (W.iret (v := 0) hx hb hr (fun tt ht _ => ⟨⟨0, (x, v', vp_updL f 0 (Int32.ofInt x).toInt64), rfl, ⟨rfl, hP, hrg, rfl⟩, by subst ht; exact hw2⟩, hS2.F ht⟩) hS2.2.2 (by decide +kernel : decode cL_wrong 15 = .ok (.ireturn, 1)))
set_option maxRecDepth 100000 in
theorem ht_wrong_1 {l : Launch} {G : va_G} {cA : Nat → ClassId} {E : EE} {A : Nat → Prop} {o : Nat} {ad : Nat → Nat} {d : Nat} {t t9 : Int} {v : Mem} {f : Nat → Int64} (hM : MT0 l G cA E (B1 A o) ad d 179 [(2, 0)] t v nIS) : vx_Met l yL_wrong wL_wrong (rmH d 1 6) (PcH G cA E A o ad t v f [.ref (ad 0), .ref o]) (QhT G cA E A o ad t v f 1) (noX A) 1 6 A := by
  refine vx_ofWH (cc := cL_wrong) (maxL := 3) (ret := some .int) (by decide) rfl ?_
  intro p e s m args below meth c s₁ B hml hv
  obtain ⟨rfl, hEV, hXE, hNC, hA, hw⟩ := hv
  have hx := B.exec
  have hb := B.bytes
  have hr := B.returns
  have hlocks := B.notSynchronized
  have hts0 := atoms_spec (ws := wL_wrong) B.pre
  have hts : ∀ w ∈ tw, w.before ([.ref (ad 0), .ref o] : List Value).toArray s = true := fun w hw => hts0 w (List.mem_cons_of_mem _ hw)
  have hown : s.vm.findClass RL = some m.cls := findClass_of_methodNamed B.named
  have hl := lv_entry ([.ref (ad 0), .ref o] : List Value) (n := 3) (Nat.le_of_ble_eq_true rfl)
  rw [lg_entry_eq]
  generalize (lg_sl ([.ref (ad 0), .ref o] : List Value) ++ List.replicate (3 - (lg_sl ([.ref (ad 0), .ref o] : List Value)).length) Slot.unset).toArray = ls at hl ⊢
  have hl : lv_has ls 3 [(0, .ref (ad 0)), (1, .ref o)] := hl
  refine lv_aload_n hx hb (by decide +kernel : decode cL_wrong 0 = .ok (.aload_n 1, 1)) rfl (lv_at hl 1 rfl) ?_
  refine lv_iconst (v := 0) hx hb (by decide +kernel : decode cL_wrong 1 = .ok (.iconst 0, 1)) (by decide) ?_
  refine lv_aload_n hx hb (by decide +kernel : decode cL_wrong 2 = .ok (.aload_n 0, 1)) rfl (lv_at hl 0 rfl) ?_
  have htab : c.exceptionTable.toList = tableOf [(0, 8, 11, 19)] := vx_table (x := yL_wrong) B (hts0 _ List.mem_cons_self)
  refine call_thr (own := RL) (r := 0) (as := []) (rest := [.int 0, .ref o]) (X := nIS) ⟨hx, hb, hml, hown, hts⟩ hEV hXE hA va_S.rf hw hM (by unfold OKY; decide +kernel) ml_wrong rfl (by show 1 + (1 + 0) ≤ 8; decide) hl.1 (by decide +kernel : decode cL_wrong 3 = .ok (.invokevirtual 33, 3)) (Nat.le_refl _) (Nat.le_refl _) (Nat.le_refl _) (Nat.le_refl _) rfl (fun ce q9 H1 locs1 hce hcv hcl hw1 hS1 => ?_)
  refine vx_catch (own := RL) (name := nIS) (E := nIS) hown [] ⟨0, 8, 11, 19⟩ [] (by rw [htab]; rfl) (fun z hz => by cases hz) (by decide) (by decide) (hts _ (tw_of lk_19 rfl)) (va_any rfl (hXE.1 _ cs_s rfl)) hce hcv hcl ?_
  refine lv_astore_n hx hb (by decide +kernel : decode cL_wrong 11 = .ok (.astore_n 2, 1)) rfl hl (by decide) rfl (fun ls9 hl9 => ?_)
  refine lv_iconst (v := 1) hx hb (by decide +kernel : decode cL_wrong 12 = .ok (.iconst 1, 1)) (by decide) ?_
  exact vx_ret (W.iret (v := 1) hx hb hr (fun tt ht _ => ⟨⟨1, (), rfl, rfl, by subst ht; exact hw1⟩, hS1.F ht⟩) hS1.2.2 (by decide +kernel : decode cL_wrong 13 = .ok (.ireturn, 1)))
