/-! Throws, as contracts. -/
def XW (cls : String) (ik ic : Nat) : Prop := Bundle.fit cls = true ∧ Cond.classLink "QuillEngine" ik cls ∈ lw_tbl ∧ Cond.initialized cls ∈ lw_tbl ∧ (∀ w ∈ vx_atS "QuillEngine" ic cls upX, w ∈ lw_tbl) ∧ (vx_atS "QuillEngine" ic cls upX).all (fun w => goodWord w || badX w) = true
def nIA : String := "java/lang/IllegalArgumentException"
def nIS : String := "java/lang/IllegalStateException"
def nIB : String := "java/lang/IndexOutOfBoundsException"
theorem XW_a : XW nIA 65 69 := ⟨by decide +kernel, xk_a, xi_a, xw_a, by decide +kernel⟩
theorem XW_s : XW nIS 92 96 := ⟨by decide +kernel, xk_s, xi_s, xw_s, by decide +kernel⟩
theorem XW_b : XW nIB 140 144 := ⟨by decide +kernel, xk_b, xi_b, xw_b, by decide +kernel⟩
theorem upX_fit : ∀ n ∈ upX, Bundle.fit n = true := by decide +kernel
def PcX (G : va_G) (cA : Nat → ClassId) (E : EE) (B0 : Nat → Prop) (ad : Nat → Nat) (as : List AV) (σ : Sg) : Array Value → State → Prop := fun v U => PcM G cA E B0 ad as σ v U ∧ XEv B0 U U.heap
theorem PcX.blind {G : va_G} {cA : Nat → ClassId} {E : EE} {B0 : Nat → Prop} {ad : Nat → Nat} {as : List AV} {σ : Sg} : FrameBlind (PcX G cA E B0 ad as σ) := by
  intro a U g mk h
  exact ⟨PcM.blind a U g mk h.1, XEv.same (u := U) rfl h.2⟩
/-- thrown: the class X, and nothing changed -/
def QtX (G : va_G) (cA : Nat → ClassId) (E : EE) (B0 : Nat → Prop) (ad : Nat → Nat) (t : Int) (v : Mem) (X : String) : String → State → State → Prop := vx_X (fun (_ : Unit) => True) (fun E9 _ tt => E9 = X ∧ va_P G vCl (wsO cA E (sg t v) ad) tt.heap) B0
section HXA
variable {p : Program} {l : Launch} {e : Env} {R : Room} {s : State} {m : MethodId} {args : Array Value} {below : List Frame} {meth : Method} {c : Code} {H : Heap} {locs : List Loc} {cells slots : Nat} {Q : State → Prop} {G : va_G} {cA : Nat → ClassId} {E : EE} {B0 : Nat → Prop} {ad ad0 : Nat → Nat} {ls : Array Slot} {t : Int} {d y pc : Nat} {L S : List AV} {v : Mem}
theorem bd_thr {cls : String} {ik is ic pc1 : Nat} {L1 : List AV} {Qc : Array Value → State → Outcome → State → Prop} (hl : l.stackTraces = false) (h : XH t d y pc L S v pc1 L1 []) (C : CX p R s m args meth c y d G cA E B0) (hXE : XEv B0 s s.heap) (hq : (mi y).1 = 9) (hlocks : meth.locks = false) (hT : ∀ x ∈ c.exceptionTable.toList, False) (hR : REL G cA E B0 s.heap (mL y) ad (sg t v) H locs ls L S) (had : ∀ c, c < 82 → ad c = ad0 c) (hw : XW cls ik ic) (his : is ∈ [67, 72, 94, 97, 99, 131, 142, 151])
    (d0 : decode (bc y) pc1 = .ok (.new ik, 3)) (d3 : decode (bc y) (pc1 + 3) = .ok (.dup, 1)) (d4 : decode (bc y) (pc1 + 4) = .ok (.ldc is, 2)) (d6 : decode (bc y) (pc1 + 6) = .ok (.invokespecial ic, 3)) (d9 : decode (bc y) (pc1 + 9) = .ok (.athrow, 1)) (hd : 5 ≤ d) (hc : 1 ≤ R.cells) (hs : 6 ≤ R.slots) :
    W p l e R s m args below meth c H locs 0 0 (vx_MQ below Qc (QtX G cA E B0 ad0 t v cls) args s 1 6 B0) (F0 m pc ls (S.map (cv E ad))) := by
  refine go_of h C hR (Nat.zero_le _) (Nat.zero_le _) (fun ad1 H1 locs1 ls1 hext hR1 => ?_)
  obtain ⟨hx, hb, hml, hown, hts, hin, hEV, hB0, hfr, hlo⟩ := C
  obtain ⟨w1, w2, w3, w4, w5⟩ := hw
  obtain ⟨tx, sa, hstr⟩ := hXE.2.2.2 is his
  have hown : s.vm.findClass "QuillEngine" = some m.cls := by rw [hq] at hown; exact hown
  have hat : ∀ w ∈ vx_atS "QuillEngine" ic cls upX, w.before args s = true := fun w hw => by
    have g := List.all_eq_true.mp w5 w hw
    rcases (Bool.or_eq_true _ _).mp g with g | g
    · exact hts _ (tw_of (w4 w hw) g)
    · exact va_any (bad_tab g) (hXE.1 w (w4 w hw) g)
  have hgood : ∀ w ∈ Cond.classLink "QuillEngine" ik cls :: Cond.initialized cls :: vx_atS "QuillEngine" ic cls upX, vx_ot w = true := fun w hw => by
    rcases List.mem_cons.mp hw with h | hw
    · rw [h]; rfl
    · rcases List.mem_cons.mp hw with h | hw
      · rw [h]; rfl
      · have g := List.all_eq_true.mp w5 w hw
        unfold vx_ot
        rcases (Bool.or_eq_true _ _).mp g with g | g
        · rw [g, Bool.or_true]
        · rw [bad_tab g, Bool.true_or]
  have e9 : wsO cA E (sg t v) ad1 = wsO cA E (sg t v) ad0 := wsO_ad hR1.2.2.2.2.1 (fun c hc => (hext c hc).trans (had c hc))
  refine vx_throwS (A := B0) (text := tx) (sa := sa) (names := upX) (rest := []) hx hb hl hown w1 upX_fit (hts _ (tw_of w2 rfl)) (hts _ (tw_of w3 rfl)) hstr hat hgood hXE.2.1 hXE.2.2.1 hR1.2.2.1 (hR1.2.2.2.1.1.trans hml.symm) d0 d3 d4 d6 d9 (fun x hx9 => (hT x hx9).elim) ?_ ?_ (by omega) (by omega) hlocks ?_ hR1.2.2.1.2.2 (Nat.le_refl _) (Nat.le_refl _)
  · show 2 + 3 < R.frames
    omega
  · show 0 + (13 * (2 + 1) + 43) ≤ R.locals
    omega
  · intro tt _ hsz hk
    refine ⟨(), trivial, ⟨rfl, ?_⟩, ⟨Nat.le_trans hR1.2.2.1.1 hsz, fun q h1 h2 => ?_⟩⟩
    · rw [← e9]
      exact hR1.1.kept (fun k q hq => hk q.1 (vx_lt hR1.1 hq))
    · rw [hk q (Nat.lt_of_lt_of_le h1 hR1.2.2.1.1)]
      exact hR1.2.2.1.2.1 q h1 h2
end HXA
theorem ct_body {l : Launch} {d y mc ms : Nat} {as : List AV} {t : Int} {v : Mem} {G : va_G} {cA : Nat → ClassId} {E : EE} {B0 : Nat → Prop} {ad : Nat → Nat} {Qc : Array Value → State → Outcome → State → Prop} {XC : String → State → State → Prop} (hy : y < nY) (hpl : plainName (yn y).cls = true) (ht : as.map Prod.fst = (mi y).2.1) (hok : okS (sg t v)) (hoa : ∀ q ∈ as, okA 82 q)
    (hb : ∀ (p : Program) (e : Env) (s : State) (m : MethodId) (below : List Frame) (meth : Method) (c : Code) (ls : Array Slot), CX p (rmM d mc ms) s m (as.map (cv E ad)).toArray meth c y d G cA E B0 → XEv B0 s s.heap → meth.sig.returnType = rt y → meth.locks = false → (∀ x ∈ c.exceptionTable.toList, False) → REL G cA E B0 s.heap (mL y) ad (sg t v) s.heap [] ls (entL y as) [] → W p l e (rmM d mc ms) s m (as.map (cv E ad)).toArray below meth c s.heap [] 0 0 (vx_MQ below Qc XC (as.map (cv E ad)).toArray s mc ms B0) (F0 m 0 ls (([] : List AV).map (cv E ad)))) :
    vx_Met l (yn y) (wsM y) (rmM d mc ms) (PcX G cA E B0 ad as (sg t v)) Qc XC mc ms B0 := by
  obtain ⟨yp1, yp2, yp3, yp4⟩ := y_plain y hy
  refine vx_ofW (cc := bc y) (maxL := mL y) (ret := rt y) hpl rfl ?_
  intro p e s m args below meth c s₁ B hml hT hv
  obtain ⟨⟨rfl, hEV, hB0, hP, hD⟩, hXE⟩ := hv
  have hts0 := atoms_spec (ws := wsM y) B.pre
  have hts : ∀ w ∈ tw, w.before (as.map (cv E ad)).toArray s = true := fun w hw => hts0 w (List.mem_cons_of_mem _ hw)
  have hown : s.vm.findClass (Rn (mi y).1) = some m.cls := by rw [← yp1]; exact findClass_of_methodNamed B.named
  have hin : isIn y = true → meth.name = "<init>" := fun q => by rw [(name_of_methodNamed B.named B.method).1]; exact (y_in y hy q).1
  have C : CX p (rmM d mc ms) s m (as.map (cv E ad)).toArray meth c y d G cA E B0 := ⟨B.exec, B.bytes, hml, hown, hts, hin, hEV, hB0, Nat.le_refl _, Nat.le_refl _⟩
  have hlay : (layA as).length ≤ mL y := by rw [layA_len, ht]; exact y_lay y hy
  rw [lg_entry_eq]
  exact hb p e s m below meth c _ C hXE B.returns B.notSynchronized hT ⟨hP, hD, va_S.rf, entL_LR hEV.2.2.2.2 ad hlay, hok, entL_ok hoa, fun q hq => by cases hq⟩
/-- a method of the class that throws with nothing changed -/
theorem ct_thr {l : Launch} (hl : l.stackTraces = false) {d y : Nat} {as : List AV} {t : Int} {v : Mem} {G : va_G} {cA : Nat → ClassId} {E : EE} {B0 : Nat → Prop} {ad : Nat → Nat} {Qc : Array Value → State → Outcome → State → Prop} {cls : String} {ik is ic pc1 : Nat} {L1 : List AV} (hy : y < nY) (hpl : plainName (yn y).cls = true) (ht : as.map Prod.fst = (mi y).2.1) (hok : okS (sg t v)) (hoa : ∀ q ∈ as, okA 82 q) (hq : (mi y).1 = 9)
    (h : XH t d y 0 (entL y as) [] v pc1 L1 []) (hw : XW cls ik ic) (his : is ∈ [67, 72, 94, 97, 99, 131, 142, 151])
    (d0 : decode (bc y) pc1 = .ok (.new ik, 3)) (d3 : decode (bc y) (pc1 + 3) = .ok (.dup, 1)) (d4 : decode (bc y) (pc1 + 4) = .ok (.ldc is, 2)) (d6 : decode (bc y) (pc1 + 6) = .ok (.invokespecial ic, 3)) (d9 : decode (bc y) (pc1 + 9) = .ok (.athrow, 1)) (hd : 5 ≤ d) :
    vx_Met l (yn y) (wsM y) (rmM d 1 6) (PcX G cA E B0 ad as (sg t v)) Qc (QtX G cA E B0 ad t v cls) 1 6 B0 :=
  ct_body hy hpl ht hok hoa (fun _ _ _ _ _ _ _ _ C hXE _ hlocks hT hR => bd_thr hl h C hXE hq hlocks hT hR (fun _ _ => rfl) hw his d0 d3 d4 d6 d9 hd (Nat.le_refl _) (Nat.le_refl _))
