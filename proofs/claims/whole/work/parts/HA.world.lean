/-! The law's world: the 82 cells, and its own row out. -/
def B1 (A : Nat → Prop) (o : Nat) : Nat → Prop := fun q => A q ∧ q ≠ o
def OUT (cA : Nat → ClassId) (o : Nat) (f : Nat → Int64) : va_W := [(o, .inl (cA 3, 1, .inr (.inl f)))]
theorem out_at {cA : Nat → ClassId} {o k : Nat} {f : Nat → Int64} {q : Nat × va_E} (h : (OUT cA o f)[k]? = some q) : k = 0 ∧ q.1 = o := by
  match k, h with
  | 0, h => cases h; exact ⟨rfl, rfl⟩
  | k + 1, h => cases h
theorem out_D {A : Nat → Prop} {cA : Nat → ClassId} {o : Nat} {f : Nat → Int64} (h : A o) : va_D A (OUT cA o f) := ⟨fun _ _ _ _ hi hj _ => by rw [(out_at hi).1, (out_at hj).1], fun _ _ hk => by rw [(out_at hk).2]; exact h⟩
def LWd (G : va_G) (cA : Nat → ClassId) (E : EE) (A : Nat → Prop) (o : Nat) (ad : Nat → Nat) (t : Int) (v : Mem) (f : Nat → Int64) (H : Heap) : Prop := va_P G vCl (wsO cA E (sg t v) ad ++ OUT cA o f) H ∧ va_D A (wsO cA E (sg t v) ad ++ OUT cA o f) ∧ okS (sg t v)
section WDA
variable {G : va_G} {cA : Nat → ClassId} {E : EE} {A : Nat → Prop} {o : Nat} {ad : Nat → Nat} {t t' : Int} {v v' : Mem} {f : Nat → Int64} {H H1 : Heap}
theorem wd_l {k : Nat} {q : Nat × va_E} (hk : (wsO cA E (sg t v) ad)[k]? = some q) : (wsO cA E (sg t v) ad ++ OUT cA o f)[k]? = some q := by
  rw [List.getElem?_append_left (List.getElem?_eq_some_iff.mp hk).1]
  exact hk
theorem wd_r {k : Nat} {q : Nat × va_E} (hk : (OUT cA o f)[k]? = some q) : (wsO cA E (sg t v) ad ++ OUT cA o f)[(wsO cA E (sg t v) ad).length + k]? = some q := by
  rw [List.getElem?_append_right (Nat.le_add_right _ _), Nat.add_sub_cancel_left]
  exact hk
theorem LWd.P (h : LWd G cA E A o ad t v f H) : va_P G vCl (wsO cA E (sg t v) ad) H := fun k q hk => h.1 k q (wd_l hk)
theorem LWd.O (h : LWd G cA E A o ad t v f H) : va_P G vCl (OUT cA o f) H := fun k q hk => h.1 _ q (wd_r hk)
theorem LWd.inA (h : LWd G cA E A o ad t v f H) : A o := h.2.1.2 _ _ (wd_r (k := 0) rfl)
theorem LWd.lt (h : LWd G cA E A o ad t v f H) : o < H.size := vx_lt h.O (k := 0) rfl
theorem LWd.D (h : LWd G cA E A o ad t v f H) : va_D (B1 A o) (wsO cA E (sg t v) ad) := by
  refine ⟨fun i j p q hi hj e => h.2.1.1 i j p q (wd_l hi) (wd_l hj) e, fun k q hk => ⟨h.2.1.2 k q (wd_l hk), fun e => ?_⟩⟩
  have h1 := h.2.1.1 k _ q _ (wd_l hk) (wd_r (k := 0) rfl) e
  have h2 := (List.getElem?_eq_some_iff.mp hk).1
  omega
theorem LWd.after (h : LWd G cA E A o ad t v f H) (hP : va_P G vCl (wsO cA E (sg t' v') ad) H1) (hD : va_D (B1 A o) (wsO cA E (sg t' v') ad)) (hok : okS (sg t' v')) (hk : ∀ q : Nat, q < H.size → ¬ B1 A o q → H1[q]? = H[q]?) : LWd G cA E A o ad t' v' f H1 := by
  refine ⟨hP.app (h.O.kept (fun k q hq => ?_)), (hD.weaken (fun _ _ _ h => h.1)).app (out_D h.inA) (fun i j x y hx hy e => (hD.2 i x hx).2 (e.trans (out_at hy).2)), hok⟩
  rw [(out_at hq).2]
  exact hk o h.lt (fun z => z.2 rfl)
theorem LWd.grow (h : LWd G cA E A o ad t v f H) (hk : ∀ q : Nat, q < H.size → H1[q]? = H[q]?) : LWd G cA E A o ad t v f H1 := ⟨h.1.kept (fun _ _ hq => hk _ (vx_lt h.1 hq)), h.2.1, h.2.2⟩
theorem LWd.pre {s U : State} {locs : List Loc} {as : List AV} {w : Array Value} (h : LWd G cA E A o ad t v f H) (hEV : EV G cA E A s s.heap) (hA : ∀ q, s.heap.size ≤ q → A q) (hS : va_S A s.heap H locs) (hw : w = (as.map (cv E ad)).toArray) (hU : U.heap = H) (hW : s.WarmedH U.vm) : PcM G cA E (B1 A o) ad as (sg t v) w U := by
  refine ⟨hw, ?_, ?_, ?_, h.D⟩
  · rw [hU]
    exact ((hEV.kept hS.2.1).moved hW).narrow (fun _ q => q.1)
  · rw [hU]
    intro q hq
    refine ⟨hA q (Nat.le_trans hS.1 hq), fun e => ?_⟩
    have := h.lt
    omega
  · rw [hU]
    exact h.P
end WDA
/-- a method of int that the law calls on the cell r -/
def OKY (y r : Nat) : Prop := y < nY ∧ isSt y = false ∧ isIn y = false ∧ (mi y).2.2.1 = 0 ∧ (mi y).1 < 11 ∧ (SH r).1 = (mi y).1 ∧ r < 82
def MR (l : Launch) (G : va_G) (cA : Nat → ClassId) (E : EE) (B0 : Nat → Prop) (ad : Nat → Nat) (d y : Nat) (as : List AV) (t t' : Int) (v : Mem) (P : Int → Mem → Prop) : Prop := ∃ (x : Int) (v' : Mem), P x v' ∧ Met l (yn y) (wsM y) (rmM d 0 0) (PcM G cA E B0 ad as (sg t v)) (fun a st o tt => QcM G cA E B0 ad (sg t v) (rvOf y x) (sg t' v') a st o tt ∧ okS (sg t' v') ∧ ∀ q ∈ rvOf y x, okA 82 q) 0 0 B0
def MT0 (l : Launch) (G : va_G) (cA : Nat → ClassId) (E : EE) (B0 : Nat → Prop) (ad : Nat → Nat) (d y : Nat) (as : List AV) (t : Int) (v : Mem) (X : String) : Prop := vx_Met l (yn y) (wsM y) (rmM d 1 6) (PcX G cA E B0 ad as (sg t v)) (va_Qi (fun _ (_ : Unit) => False) (fun _ _ => True) B0) (QtX G cA E B0 ad t v X) 1 6 B0
section WDB
variable {p : Program} {l : Launch} {e : Env} {R : Room} {s : State} {m : MethodId} {args : Array Value} {below : List Frame} {meth : Method} {c : Code} {H : Heap} {locs : List Loc} {cells slots : Nat} {Q : State → Prop} {G : va_G} {cA : Nat → ClassId} {E : EE} {A : Nat → Prop} {o : Nat} {ad : Nat → Nat} {ls : Array Slot} {t t' : Int} {d y pc r idx nL : Nat} {v : Mem} {f : Nat → Int64} {cc : ByteArray} {own : String} {as : List AV} {rest : List Value}
theorem call_cw (hts : ∀ w ∈ tw, w.before args s = true) (hy : OKY y r) (hlink : Cond.methodLink own idx (yn y) ∈ lw_tbl) (hlen : as.length = (mi y).2.1.length - 1) (hfr : d + 2 ≤ R.frames) (hlo : 28 * d + 88 ≤ R.locals) (mc ms : Nat) : CallW R s args own (Rn (mi y).1) idx (yn y) (bc y) (mL y) (rt y) (wsM y) (rmM d mc ms) mc ms as.length := by
  obtain ⟨y1, y2, y3, y4, y5, y6, y7⟩ := hy
  obtain ⟨yp1, yp2, yp3, yp4⟩ := y_plain y y1
  have h9 := (y_cls y y1).2.1
  have hini : (Cond.initialized (yn y).cls).before args s = true := by
    rw [yp1]
    exact hts _ (tw_of (in_ci (mi y).1 (by simp; omega)) rfl)
  have hde : (parseMethodDescriptor (yn y).desc).map (fun d => d.parameters.length) = some as.length := by
    rw [hlen]
    have := y_desc y y1
    rw [y2] at this
    exact this
  refine ⟨callB_of as.length hts (wsM_good y1) rfl rfl rfl hini (hts _ (tw_of hlink rfl)) ⟨yp3, yp4, hde⟩ ⟨hfr, ?_⟩, hts _ (tw_of (in_im y (iAll_in y y1 y2)) rfl), hts _ (tw_of (in_se y (sAll_in y y1 y2 y3)) rfl)⟩
  show 8 + (mL y + 11) + (28 * d + 60) ≤ R.locals
  omega
/-- a call that returns -/
theorem call_ret {P : Int → Mem → Prop} (S : CallFix p m c cc nL s args tw own) (hEV : EV G cA E A s s.heap) (hA : ∀ q, s.heap.size ≤ q → A q) (hS : va_S A s.heap H locs) (hw : LWd G cA E A o ad t v f H) (hM : MR l G cA E (B1 A o) ad d y ((2, (r : Int)) :: as) t t' v P) (hy : OKY y r) (hlink : Cond.methodLink own idx (yn y) ∈ lw_tbl) (hlen : as.length = (mi y).2.1.length - 1) (hcat : (rest.map fun v => v.category).sum ≤ 8) (hsize : ls.size = nL) (hdg : decode cc pc = .ok (.invokevirtual idx, 3)) (hfr : d + 2 ≤ R.frames) (hlo : 28 * d + 88 ≤ R.locals) (hc : cells ≤ R.cells) (hs : slots ≤ R.slots) {st0 : List Value} (hst : st0 = (as.map (cv E ad)).reverse ++ .ref (ad r) :: rest)
    (kk : ∀ (x : Int) (v' : Mem) (H1 : Heap) (locs1 : List Loc), P x v' → (-2147483648 ≤ x ∧ x < 2147483648) → LWd G cA E A o ad t' v' f H1 → va_S A s.heap H1 locs1 → W p l e R s m args below meth c H1 locs1 cells slots Q (F0 m (pc + 3) ls (.int (Int32.ofInt x) :: rest))) : W p l e R s m args below meth c H locs cells slots Q (F0 m pc ls st0) := by
  subst hst
  obtain ⟨x, v', hP, hM⟩ := hM
  have hts := S.2.2.2.2
  have hr := va_runV (l := l) (e := e) (below := below) (meth := meth) (H := H) (locs := locs) (cells := cells) (slots := slots) (C := Rn (mi y).1) (b := ad r) (As := as.map (cv E ad)) (rest := rest) (g := F0 m pc ls ((as.map (cv E ad)).reverse ++ .ref (ad r) :: rest)) S hM (call_cw hts hy hlink hlen hfr hlo 0 0) ⟨PcM.blind, recv_at hEV.1 hw.P hy.2.2.2.2.2.2 hy.2.2.2.2.2.1 hy.2.2.2.2.1, fun U hU hW => hw.pre hEV hA hS (by rw [List.map_cons, cv_ref]) hU hW⟩ rfl (by rw [List.length_map]) hsize rfl (lv_room hcat) hdg ⟨by omega, by omega⟩
  intro T hT X
  obtain ⟨vv, st₀, tt, T', L9, h0, X', hL, e1, e2, ⟨⟨ad1, hext, hv, hP1, hD1, hF⟩, hok, hro⟩, st⟩ := hr T hT X
  have hrv : rvOf y x = [(0, x)] := by unfold rvOf; rw [hy.2.2.2.1]; rfl
  rw [hrv] at hv hro
  have hv : vv = some (.int (Int32.ofInt x)) := by cases hv; rfl
  subst hv
  have e9 : wsO cA E (sg t' v') ad1 = wsO cA E (sg t' v') ad := wsO_ad hok hext
  rw [e9] at hP1 hD1
  rw [← e1] at hP1
  obtain ⟨k1, k2, k3⟩ := vx_keep (free := B1 A o) h0 e1 hS (fun _ _ h => h.1) (fun _ h => h.1) hL hF
  obtain ⟨t2, a1, b1⟩ := kk x v' T'.heap (locs ++ L9) hP (hro _ List.mem_cons_self) (hw.after hP1 hD1 hok k2) k3 T' rfl X'
  exact ⟨t2, st t2 a1, b1⟩
/-- a call that throws -/
theorem call_thr {X : String} (S : CallFix p m c cc nL s args tw own) (hEV : EV G cA E A s s.heap) (hXE : XEv A s s.heap) (hA : ∀ q, s.heap.size ≤ q → A q) (hS : va_S A s.heap H locs) (hw : LWd G cA E A o ad t v f H) (hM : MT0 l G cA E (B1 A o) ad d y ((2, (r : Int)) :: as) t v X) (hy : OKY y r) (hlink : Cond.methodLink own idx (yn y) ∈ lw_tbl) (hlen : as.length = (mi y).2.1.length - 1) (hcat : (rest.map fun v => v.category).sum ≤ 8) (hsize : ls.size = nL) (hdg : decode cc pc = .ok (.invokevirtual idx, 3)) (hfr : d + 2 ≤ R.frames) (hlo : 28 * d + 88 ≤ R.locals) (hc : cells + 1 ≤ R.cells) (hs : slots + 6 ≤ R.slots) {st0 : List Value} (hst : st0 = (as.map (cv E ad)).reverse ++ .ref (ad r) :: rest)
    (kx : ∀ (ce : Cell) (q9 : Addr) (H1 : Heap) (locs1 : List Loc), H1[q9]? = some ce → ce.vm = .none → s.vm.findClass X = some ce.cls → LWd G cA E A o ad t v f H1 → va_S A s.heap H1 locs1 → vx_W p l e R s m args below meth c H1 locs1 (cells + 1) (slots + 6) Q (F0 m pc ls rest) q9) : W p l e R s m args below meth c H locs cells slots Q (F0 m pc ls st0) := by
  subst hst
  have hts := S.2.2.2.2
  have hr := vx_runV (l := l) (e := e) (below := below) (meth := meth) (H := H) (locs := locs) (cells := cells) (slots := slots) (C := Rn (mi y).1) (b := ad r) (As := as.map (cv E ad)) (rest := rest) (g := F0 m pc ls ((as.map (cv E ad)).reverse ++ .ref (ad r) :: rest)) S hM (call_cw hts hy hlink hlen hfr hlo 1 6) ⟨PcX.blind, recv_at hEV.1 hw.P hy.2.2.2.2.2.2 hy.2.2.2.2.2.1 hy.2.2.2.2.1, fun U hU hW => ⟨hw.pre hEV hA hS (by rw [List.map_cons, cv_ref]) hU hW, by rw [hU]; exact ((hXE.kept hS.2.1).moved hW).narrow (fun _ q => q.1)⟩⟩ rfl (by rw [List.length_map]) hsize rfl (lv_room hcat) hdg ⟨hc, hs⟩
  refine vx_calli (A0 := A) (A1 := B1 A o) (rest := rest) hr hS (fun _ _ h => h.1) (fun _ h => h.1) (fun _ _ h => h.1) ?_ ?_
  · intro E9 ce q9 u tt H1 locs1 ht _ _ hB _ hk hS1 hce hcv hcl
    obtain ⟨h1, h2⟩ := hB
    subst h1
    rw [ht] at h2
    exact kx ce q9 H1 locs1 hce hcv hcl (hw.after h2 hw.D hw.2.2 hk) hS1
  · intro r9 u tt H1 locs1 _ _ hf
    exact hf.elim
end WDB
