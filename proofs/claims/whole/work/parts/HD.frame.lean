/-! The law's own frame: the calls of its catchers, and what stands behind each of them. -/
def LC (p : Program) (l : Launch) (s : State) (m : MethodId) (c : Code) (b L : Nat) (xs : Nat → Int32) (G : va_G) (cA : Nat → ClassId) (E : EE) (A : Nat → Prop) : Prop :=
  p.tables.exec = Jvm.exec ∧ c.code = code ∧ c.maxLocals = 7 ∧ s.vm.findClass RL = some m.cls ∧ (∀ w ∈ tw, w.before #[Value.ref b] s = true) ∧ va_X b L xs s s.heap ∧ b < s.heap.size ∧ ¬ A b ∧ EV G cA E A s s.heap ∧ XEv A s s.heap ∧ NCx s ∧ (∀ q, s.heap.size ≤ q → A q) ∧ l.stackTraces = false
def lvL (b : Nat) (ad : Nat → Nat) (o : Nat) (xi : Int32) : List (Nat × Value) := [(0, .ref b), (1, .ref (ad 0)), (2, .ref (ad 38)), (3, .ref o), (4, .int xi)]
def LI (s : State) (G : va_G) (cA : Nat → ClassId) (E : EE) (A : Nat → Prop) (o : Nat) (ad : Nat → Nat) (b : Nat) (xi : Int32) (t : Int) (v : Mem) (f : Nat → Int64) (H : Heap) (locs : List Loc) (ls : Array Slot) : Prop := LWd G cA E A o ad t v f H ∧ INV v ∧ va_S A s.heap H locs ∧ lv_has ls 7 (lvL b ad o xi)
set_option maxRecDepth 100000 in
theorem in_ini : Cond.initialized RL ∈ lw_tbl := List.mem_of_getElem? (i := 150) rfl
set_option maxRecDepth 100000 in
theorem ml_thrown : Cond.methodLink RL 49 (yn 182) ∈ lw_tbl := List.mem_of_getElem? (i := 1693) rfl
theorem i32_of (x : Int32) : ∃ a, i32 a ∧ x = Int32.ofInt a := ⟨x.toInt, ⟨Int32.le_toInt x, Int32.toInt_lt x⟩, (Int32.ofInt_toInt x).symm⟩
theorem i64_of (x : Int64) : ∃ a, i64 a ∧ x = Int64.ofInt a := ⟨x.toInt, ⟨Int64.le_toInt x, Int64.toInt_lt x⟩, (Int64.ofInt_toInt x).symm⟩
theorem hp_cw {R : Room} {s : State} {args : Array Value} (hts : ∀ w ∈ tw, w.before args s = true) {y : MethodName} {cc : ByteArray} {maxL idx n : Nat} {hh : List (Nat × Nat × Nat × Nat)} (h1 : Cond.codeWith y cc maxL (some .int) hh ∈ lw_tbl) (h2 : Cond.methodLink RL idx y ∈ lw_tbl) (h3 : Cond.static y ∈ lw_tbl) (hy : y.cls = RL) (hn : (parseMethodDescriptor y.desc).map (fun d => d.parameters.length) = some n) (hm : maxL ≤ 9) (mc ms : Nat) (hfr : 33 ≤ R.frames) (hlo : 956 ≤ R.locals) : vx_CSW R s args RL idx y cc maxL (some .int) hh (Cond.codeWith y cc maxL (some .int) hh :: tw) (rmH 30 mc ms) mc ms n := by
  have hG : GoodIn tw (Cond.codeWith y cc maxL (some .int) hh :: tw) := by
    intro w hw
    rcases List.mem_cons.mp hw with h | h
    · rw [h]
      exact ⟨tw_of h1 rfl, good_of_word rfl⟩
    · exact ⟨h, good_of_word (List.mem_filter.mp h).2⟩
  refine ⟨⟨rfl, rfl, ?_, ?_, pay_in hts hG, List.mem_cons_self⟩, hts _ (tw_of h1 rfl), ?_, ⟨by rw [hy]; decide, by rw [hy]; decide⟩, fun sig h => ?_, hts _ (tw_of h2 rfl), hts _ (tw_of h3 rfl)⟩
  · show 30 + 2 + 1 ≤ R.frames
    omega
  · show 8 + (maxL + 11) + (28 * 30 + 88) ≤ R.locals
    omega
  · rw [hy]
    exact hts _ (tw_of in_ini rfl)
  · rw [h] at hn
    exact (Option.some.inj hn).symm
section LFR
variable {p : Program} {l : Launch} {e : Env} {s : State} {m : MethodId} {below : List Frame} {meth : Method} {c : Code} {H : Heap} {locs : List Loc} {cells slots : Nat} {Q : State → Prop} {G : va_G} {cA : Nat → ClassId} {E : EE} {A : Nat → Prop} {o : Nat} {ad : Nat → Nat} {ls : Array Slot} {t t9 : Int} {pc b L : Nat} {v : Mem} {f : Nat → Int64} {xs : Nat → Int32} {vals : List Value}
theorem pcH_at {U : State} (C : LC p l s m c b L xs G cA E A) (hS : va_S A s.heap H locs) (hw : LWd G cA E A o ad t v f H) (hU : U.heap = H) (hW : s.WarmedH U.vm) : PcH G cA E A o ad t v f vals vals.toArray U := by
  obtain ⟨hx, hb, hml, hown, hts, hX, hbl, hbA, hEV, hXE, hNC, hA, hl0⟩ := C
  refine ⟨rfl, ?_, ?_, hNC.moved hW.alike, ?_, ?_⟩
  · rw [hU]
    exact (hEV.kept hS.2.1).moved hW
  · rw [hU]
    exact (hXE.kept hS.2.1).moved hW
  · rw [hU]
    exact fun q hq => hA q (Nat.le_trans hS.1 hq)
  · rw [hU]
    exact hw
theorem hp_ret {y : MethodName} {cc : ByteArray} {maxL idx n : Nat} {hh : List (Nat × Nat × Nat × Nat)} {P : Int → Mem → Prop} (C : LC p l s m c b L xs G cA E A) (hS : va_S A s.heap H locs) (hw : LWd G cA E A o ad t v f H) (hM : vx_Met l y (Cond.codeWith y cc maxL (some .int) hh :: tw) (rmH 30 0 0) (PcH G cA E A o ad t v f vals) (QhR G cA E A o ad t9 P) (noX A) 0 0 A) (h1 : Cond.codeWith y cc maxL (some .int) hh ∈ lw_tbl) (h2 : Cond.methodLink RL idx y ∈ lw_tbl) (h3 : Cond.static y ∈ lw_tbl) (hy : y.cls = RL) (hn : (parseMethodDescriptor y.desc).map (fun d => d.parameters.length) = some n) (hm : maxL ≤ 9) (hlen : vals.length = n) (hsize : ls.size = 7) (hdg : decode code pc = .ok (.invokestatic idx, 3)) (hc : cells ≤ 601024) (hs : slots ≤ 7293034) {st0 : List Value} (hst : st0 = vals.reverse)
    (kk : ∀ (x : Int) (v' : Mem) (f' : Nat → Int64) (H1 : Heap) (locs1 : List Loc), P x v' → i32 x → f' 0 = (Int32.ofInt x).toInt64 → LWd G cA E A o ad t9 v' f' H1 → va_S A s.heap H1 locs1 → W p l e room_1 s m #[Value.ref b] below meth c H1 locs1 cells slots Q (F0 m (pc + 3) ls [.int 0])) : W p l e room_1 s m #[Value.ref b] below meth c H locs cells slots Q (F0 m pc ls st0) := by
  subst hst
  obtain ⟨hx, hb, hml, hown, hts, -⟩ := id C
  have hr := vx_runSX (R := room_1) (l := l) (e := e) (below := below) (meth := meth) (H := H) (locs := locs) (cells := cells) (slots := slots) (hh := hh) (As := vals) (rest := []) (g := F0 m pc ls vals.reverse) ⟨hx, hb, hml, hown, hts⟩ hM (hp_cw hts h1 h2 h3 hy hn hm 0 0 (Nat.le_of_ble_eq_true rfl) (Nat.le_of_ble_eq_true rfl)) ⟨PcH.blind, fun U hU hW => pcH_at C hS hw hU hW⟩ rfl hlen hsize (List.append_nil _).symm (lv_room (by decide)) hdg ⟨hc, hs⟩
  refine vx_calli (A0 := A) (A1 := A) (rest := []) hr hS (fun _ _ h => h) (fun _ h => h) (fun _ _ h => h) ?_ ?_
  · intro E9 ce q9 u tt H1 locs1 _ _ hf
    exact hf.elim
  · intro r u tt H1 locs1 ht _ hp hB _ _ hS1
    obtain ⟨x, v', f'⟩ := u
    obtain ⟨hr0, g1, g2, g3⟩ := hp
    have hB : LWd G cA E A o ad t9 v' f' tt.heap := hB
    rw [ht] at hB
    rw [hr0]
    exact kk x v' f' H1 locs1 g1 g2 g3 hB hS1
theorem hp_thr {y : MethodName} {cc : ByteArray} {maxL idx n : Nat} {hh : List (Nat × Nat × Nat × Nat)} {k : Int32} (C : LC p l s m c b L xs G cA E A) (hS : va_S A s.heap H locs) (hw : LWd G cA E A o ad t v f H) (hM : vx_Met l y (Cond.codeWith y cc maxL (some .int) hh :: tw) (rmH 30 1 6) (PcH G cA E A o ad t v f vals) (QhT G cA E A o ad t v f k) (noX A) 1 6 A) (h1 : Cond.codeWith y cc maxL (some .int) hh ∈ lw_tbl) (h2 : Cond.methodLink RL idx y ∈ lw_tbl) (h3 : Cond.static y ∈ lw_tbl) (hy : y.cls = RL) (hn : (parseMethodDescriptor y.desc).map (fun d => d.parameters.length) = some n) (hm : maxL ≤ 9) (hlen : vals.length = n) (hsize : ls.size = 7) (hdg : decode code pc = .ok (.invokestatic idx, 3)) (hc : cells + 1 ≤ 601024) (hs : slots + 6 ≤ 7293034) {st0 : List Value} (hst : st0 = vals.reverse)
    (kk : ∀ (H1 : Heap) (locs1 : List Loc), LWd G cA E A o ad t v f H1 → va_S A s.heap H1 locs1 → W p l e room_1 s m #[Value.ref b] below meth c H1 locs1 (cells + 1) (slots + 6) Q (F0 m (pc + 3) ls [.int k])) : W p l e room_1 s m #[Value.ref b] below meth c H locs cells slots Q (F0 m pc ls st0) := by
  subst hst
  obtain ⟨hx, hb, hml, hown, hts, -⟩ := id C
  have hr := vx_runSX (R := room_1) (l := l) (e := e) (below := below) (meth := meth) (H := H) (locs := locs) (cells := cells) (slots := slots) (hh := hh) (As := vals) (rest := []) (g := F0 m pc ls vals.reverse) ⟨hx, hb, hml, hown, hts⟩ hM (hp_cw hts h1 h2 h3 hy hn hm 1 6 (Nat.le_of_ble_eq_true rfl) (Nat.le_of_ble_eq_true rfl)) ⟨PcH.blind, fun U hU hW => pcH_at C hS hw hU hW⟩ rfl hlen hsize (List.append_nil _).symm (lv_room (by decide)) hdg ⟨hc, hs⟩
  refine vx_calli (A0 := A) (A1 := A) (rest := []) hr hS (fun _ _ h => h) (fun _ h => h) (fun _ _ h => h) ?_ ?_
  · intro E9 ce q9 u tt H1 locs1 _ _ hf
    exact hf.elim
  · intro r u tt H1 locs1 ht _ hp hB _ _ hS1
    have hB : LWd G cA E A o ad t v f tt.heap := hB
    rw [ht] at hB
    have hp : r = k := hp
    rw [hp]
    exact kk H1 locs1 hB hS1
/-- the comparison behind a call: the pattern of the code at q -/
def TL (q : Nat) (off : Int) : Prop := decode code q = .ok (.istore 6, 2) ∧ decode code (q + 2) = .ok (.aload_n 2, 1) ∧ decode code (q + 3) = .ok (.invokevirtual 49, 3) ∧ decode code (q + 6) = .ok (.iload 5, 2) ∧ decode code (q + 8) = .ok (.if_icmp .eq 5, 3) ∧ decode code (q + 13) = .ok (.iload 5, 2) ∧ decode code (q + 15) = .ok (.ifCond .ne 15, 3) ∧ decode code (q + 18) = .ok (.aload_n 3, 1) ∧ decode code (q + 19) = .ok (.iconst 0, 1) ∧ decode code (q + 20) = .ok (.laload, 1) ∧ decode code (q + 21) = .ok (.iload 6, 2) ∧ decode code (q + 23) = .ok (.i2l, 1) ∧ decode code (q + 24) = .ok (.lcmp, 1) ∧ decode code (q + 25) = .ok (.ifCond .eq 5, 3) ∧ decode code (q + 30) = .ok (.goto off, 3) ∧ (q : Int) + 30 + off = 490
theorem lw_tail {q : Nat} {off : Int} {K xi : Int32} {b' : Int} (T : TL q off) (C : LC p l s m c b L xs G cA E A) (hS : va_S A s.heap H locs) (hw : LWd G cA E A o ad t v f H) (hI : INV v) (hK : Int32.ofInt (v 38 7) = K) (h0 : K = 0 → f 0 = (Int32.ofInt b').toInt64) (hl : lv_has ls 7 ((5, .int K) :: lvL b ad o xi)) (hc : cells ≤ 601024) (hs : slots ≤ 7293034)
    (kk : ∀ (H1 : Heap) (locs1 : List Loc) (ls1 : Array Slot), LI s G cA E A o ad b xi t v f H1 locs1 ls1 → W p l e room_1 s m #[Value.ref b] below meth c H1 locs1 cells slots Q (F0 m 490 ls1 [])) : W p l e room_1 s m #[Value.ref b] below meth c H locs cells slots Q (F0 m q ls [.int (Int32.ofInt b')]) := by
  obtain ⟨T1, T2, T3, T4, T5, T6, T7, T8, T9, T10, T11, T12, T13, T14, T15, T16⟩ := T
  obtain ⟨hx, hb, hml, hown, hts, hX, hbl, hbA, hEV, hXE, hNC, hA, hl0⟩ := id C
  refine lv_istore (lv' := [(6, .int (Int32.ofInt b')), (5, .int K), (0, .ref b), (1, .ref (ad 0)), (2, .ref (ad 38)), (3, .ref o), (4, .int xi)]) hx hb T1 hl (by decide) rfl (fun ls hl => ?_)
  refine lv_aload_n hx hb T2 rfl (lv_at hl 4 rfl) ?_
  refine call_ret (own := RL) (y := 182) (r := 38) (as := []) (rest := []) (t' := t) (P := fun x v' => x = v 38 7 ∧ v' = v) ⟨hx, hb, hml, hown, hts⟩ hEV hA hS hw (of_ref (d := 5) (w_182 ⟨rfl, rfl⟩ : RR t 5 182 [(2, ((38 : Nat) : Int))] v _) rfl hw.2.2 (by decide) oa_n) (by unfold OKY; decide +kernel) ml_thrown rfl (by decide) hl.1 T3 (Nat.le_of_ble_eq_true rfl) (Nat.le_of_ble_eq_true rfl) hc hs rfl (fun x v' H1 locs1 hP hrg hw1 hS1 => ?_)
  obtain ⟨ex, ev⟩ := hP
  subst ev
  subst ex
  refine lv_iload hx hb T4 (lv_at hl 1 rfl) ?_
  refine lv_icmp_eq (tgt := q + 13) hx hb T5 (by omega) (fun c1 => ?_) (fun c1 => absurd hK c1)
  refine lv_iload hx hb T6 (lv_at hl 1 rfl) ?_
  have hgo : W p l e room_1 s m #[Value.ref b] below meth c H1 locs1 cells slots Q (F0 m (q + 30) ls []) := by
    refine lv_goto (tgt := 490) hx hb T15 (by omega) ?_
    exact kk H1 locs1 ls ⟨hw1, hI, hS1, lv_sub hl [2, 3, 4, 5, 6] rfl⟩
  refine lv_if_ne (tgt := q + 30) hx hb T7 (by omega) (fun _ => hgo) (fun c2 => ?_)
  have c2 : K = 0 := by
    first
    | exact c2
    | exact Classical.not_not.mp c2
  refine lv_aload_n hx hb T8 rfl (lv_at hl 5 rfl) ?_
  refine lv_iconst (v := 0) hx hb T9 (by decide) ?_
  refine hw1.load hx hb hEV.1 T10 ?_
  refine lv_iload hx hb T11 (lv_at hl 0 rfl) ?_
  refine lv_i2l hx hb T12 rfl ?_
  refine W.lcmp hx hb T13 ?_
  rw [h0 c2, show lg_cmp (Int32.ofInt b').toInt64 (Int32.ofInt b').toInt64 = 0 from by simp [lg_cmp]]
  exact lv_if_eq (tgt := q + 30) hx hb T14 (by omega) (fun _ => hgo) (fun c3 => absurd rfl c3)
end LFR
