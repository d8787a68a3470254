/-! Instructions. Printed by wip/whole/gen/genstep.py. -/
section STP
variable {p : Program} {l : Launch} {e : Env} {R : Room} {s : State} {m : MethodId} {args : Array Value} {below : List Frame} {meth : Method} {c : Code} {H : Heap} {locs : List Loc} {cells slots : Nat} {Q : State → Prop} {G : va_G} {cA : Nat → ClassId} {E : EE} {B0 : Nat → Prop} {y d nL : Nat} {ad : Nat → Nat} {σ : Sg} {ls : Array Slot} {L S : List AV} {pc : Nat}
/-- what a step hands on -/
def KT (p : Program) (l : Launch) (e : Env) (R : Room) (s : State) (m : MethodId) (args : Array Value) (below : List Frame) (meth : Method) (c : Code) (Q : State → Prop) (G : va_G) (cA : Nat → ClassId) (E : EE) (B0 : Nat → Prop) (nL : Nat) (cells slots : Nat) (ad : Nat → Nat) (σ : Sg) (pc1 : Nat) (L1 S1 : List AV) (σ1 : Sg) : Prop :=
  ∀ (ad1 : Nat → Nat) (H1 : Heap) (locs1 : List Loc) (ls1 : Array Slot), (∀ c, c < σ.1 → ad1 c = ad c) → REL G cA E B0 s.heap nL ad1 σ1 H1 locs1 ls1 L1 S1 → W p l e R s m args below meth c H1 locs1 (cells + (σ1.1 - σ.1)) (slots + (σ1.2.1 - σ.2.1)) Q (F0 m pc1 ls1 (S1.map (cv E ad1)))
theorem KT.same {pc1 : Nat} {L1 S1 : List AV} {ls1 : Array Slot} (kk : KT p l e R s m args below meth c Q G cA E B0 nL cells slots ad σ pc1 L1 S1 σ) (hR : REL G cA E B0 s.heap nL ad σ H locs ls L S) (hLR : LR E ad nL ls1 L1) (hL : ∀ q ∈ L1, okA σ.1 q) (hS : ∀ q ∈ S1, okA σ.1 q) : W p l e R s m args below meth c H locs cells slots Q (F0 m pc1 ls1 (S1.map (cv E ad))) := by
  have h := kk ad H locs ls1 (fun _ _ => rfl) ⟨hR.1, hR.2.1, hR.2.2.1, hLR, hR.2.2.2.2.1, hL, hS⟩
  rw [Nat.sub_self, Nat.sub_self] at h
  exact h
theorem KT.stk {pc1 : Nat} {S1 : List AV} (kk : KT p l e R s m args below meth c Q G cA E B0 nL cells slots ad σ pc1 L S1 σ) (hR : REL G cA E B0 s.heap nL ad σ H locs ls L S) (hS : ∀ q ∈ S1, okA σ.1 q) : W p l e R s m args below meth c H locs cells slots Q (F0 m pc1 ls (S1.map (cv E ad))) :=
  kk.same hR hR.2.2.2.1 hR.2.2.2.2.2.1 hS
theorem okc {n : Nat} {q : AV} {S : List AV} (h1 : okA n q) (h : ∀ z ∈ S, okA n z) : ∀ z ∈ q :: S, okA n z := fun z hz => (List.mem_cons.mp hz).elim (fun e => e ▸ h1) (h z)
theorem okt {n : Nat} {q : AV} {S : List AV} (h : ∀ z ∈ q :: S, okA n z) : ∀ z ∈ S, okA n z := fun z hz => h z (List.mem_cons_of_mem _ hz)
theorem okh {n : Nat} {q : AV} {S : List AV} (h : ∀ z ∈ q :: S, okA n z) : okA n q := h q List.mem_cons_self
theorem ok_iand (a b : Int) : -2147483648 ≤ iand a b ∧ iand a b < 2147483648 := by unfold iand; exact r32 _
theorem ok_ishr (a b : Int) : -2147483648 ≤ ishr a b ∧ ishr a b < 2147483648 := by unfold ishr; exact r32 _
theorem ok_lshr (a b : Int) : -9223372036854775808 ≤ lshr a b ∧ lshr a b < 9223372036854775808 := by unfold lshr; exact r64 _
theorem ok_lushr (a b : Int) : -9223372036854775808 ≤ lushr a b ∧ lushr a b < 9223372036854775808 := by unfold lushr; exact r64 _
theorem e_iand (a b : Int) : Int32.ofInt a &&& Int32.ofInt b = Int32.ofInt (iand a b) := by unfold iand; rw [Int32.ofInt_toInt]
theorem e_ishr (a b : Int) : Int32.ofInt a >>> (Int32.ofInt b &&& 31) = Int32.ofInt (ishr a b) := by unfold ishr; rw [Int32.ofInt_toInt]
theorem e_lshr (a b : Int) : Int64.ofInt a >>> ((Int32.ofInt b).toInt64 &&& 63) = Int64.ofInt (lshr a b) := by unfold lshr; rw [Int64.ofInt_toInt]
theorem e_lushr (a b : Int) : ((Int64.ofInt a).toUInt64 >>> ((Int32.ofInt b).toInt64.toUInt64 &&& Int64.toUInt64 63)).toInt64 = Int64.ofInt (lushr a b) := by unfold lushr; rw [Int64.ofInt_toInt]
theorem bip_ {n : Int} (h1 : -128 ≤ n) (h2 : n < 128) : (Int8.ofInt n).toInt32 = Int32.ofInt n := by
  apply e32
  rw [Int8.toInt_toInt32, Int8.toInt_ofInt_of_le (by simpa using h1) (by simpa using h2)]
theorem sip_ {n : Int} (h1 : -32768 ≤ n) (h2 : n < 32768) : (Int16.ofInt n).toInt32 = Int32.ofInt n := by
  apply e32
  rw [Int16.toInt_toInt32, Int16.toInt_ofInt_of_le (by simpa using h1) (by simpa using h2)]
theorem st_iadd {r : List Int} {pc1 : Nat} {L1 S1 : List AV} {σ1 : Sg} (C : CX p R s m args meth c y d G cA E B0) (he : (pc, (.iadd : Instr), r) ∈ cod y) (h : stp nS sB (.iadd) r pc L S σ = some (pc1, L1, S1, σ1)) (hnL : nL = mL y) (hR : REL G cA E B0 s.heap nL ad σ H locs ls L S) (kk : KT p l e R s m args below meth c Q G cA E B0 nL cells slots ad σ pc1 L1 S1 σ1) : W p l e R s m args below meth c H locs cells slots Q (F0 m pc ls (S.map (cv E ad))) := by
  obtain ⟨hx, hb, hml, hown, hts, hin, hEV, hB0, hfr, hlo⟩ := C
  have hok := ok_all he
  have hok' := (Bool.and_eq_true _ _).mp hok.2
  have hd : decode (bc y) pc = .ok (.iadd, lenI (.iadd) r) := of_decide_eq_true hok'.1
  have hres : resB (mi y).1 (isIn y) pc (.iadd) r = true := hok'.2
  have hSok := hR.2.2.2.2.2.2
  unfold stp at h
  dsimp only at h
  have h9 := bI_some h
  clear h
  obtain ⟨b, S2, rfl, h⟩ := h9
  have h9 := bI_some h
  clear h
  obtain ⟨a, S3, rfl, h⟩ := h9
  cases h
  refine lv_iadd (x := Int32.ofInt a) (y := Int32.ofInt b) hx hb hd ?_
  rw [add32]
  exact kk.stk hR (okc (w32_r _) (okt (okt hSok)))
theorem st_isub {r : List Int} {pc1 : Nat} {L1 S1 : List AV} {σ1 : Sg} (C : CX p R s m args meth c y d G cA E B0) (he : (pc, (.isub : Instr), r) ∈ cod y) (h : stp nS sB (.isub) r pc L S σ = some (pc1, L1, S1, σ1)) (hnL : nL = mL y) (hR : REL G cA E B0 s.heap nL ad σ H locs ls L S) (kk : KT p l e R s m args below meth c Q G cA E B0 nL cells slots ad σ pc1 L1 S1 σ1) : W p l e R s m args below meth c H locs cells slots Q (F0 m pc ls (S.map (cv E ad))) := by
  obtain ⟨hx, hb, hml, hown, hts, hin, hEV, hB0, hfr, hlo⟩ := C
  have hok := ok_all he
  have hok' := (Bool.and_eq_true _ _).mp hok.2
  have hd : decode (bc y) pc = .ok (.isub, lenI (.isub) r) := of_decide_eq_true hok'.1
  have hres : resB (mi y).1 (isIn y) pc (.isub) r = true := hok'.2
  have hSok := hR.2.2.2.2.2.2
  unfold stp at h
  dsimp only at h
  have h9 := bI_some h
  clear h
  obtain ⟨b, S2, rfl, h⟩ := h9
  have h9 := bI_some h
  clear h
  obtain ⟨a, S3, rfl, h⟩ := h9
  cases h
  refine lv_isub (x := Int32.ofInt a) (y := Int32.ofInt b) hx hb hd ?_
  rw [sub32]
  exact kk.stk hR (okc (w32_r _) (okt (okt hSok)))
theorem st_imul {r : List Int} {pc1 : Nat} {L1 S1 : List AV} {σ1 : Sg} (C : CX p R s m args meth c y d G cA E B0) (he : (pc, (.imul : Instr), r) ∈ cod y) (h : stp nS sB (.imul) r pc L S σ = some (pc1, L1, S1, σ1)) (hnL : nL = mL y) (hR : REL G cA E B0 s.heap nL ad σ H locs ls L S) (kk : KT p l e R s m args below meth c Q G cA E B0 nL cells slots ad σ pc1 L1 S1 σ1) : W p l e R s m args below meth c H locs cells slots Q (F0 m pc ls (S.map (cv E ad))) := by
  obtain ⟨hx, hb, hml, hown, hts, hin, hEV, hB0, hfr, hlo⟩ := C
  have hok := ok_all he
  have hok' := (Bool.and_eq_true _ _).mp hok.2
  have hd : decode (bc y) pc = .ok (.imul, lenI (.imul) r) := of_decide_eq_true hok'.1
  have hres : resB (mi y).1 (isIn y) pc (.imul) r = true := hok'.2
  have hSok := hR.2.2.2.2.2.2
  unfold stp at h
  dsimp only at h
  have h9 := bI_some h
  clear h
  obtain ⟨b, S2, rfl, h⟩ := h9
  have h9 := bI_some h
  clear h
  obtain ⟨a, S3, rfl, h⟩ := h9
  cases h
  refine lv_imul (x := Int32.ofInt a) (y := Int32.ofInt b) hx hb hd ?_
  rw [mul32]
  exact kk.stk hR (okc (w32_r _) (okt (okt hSok)))
theorem st_iand {r : List Int} {pc1 : Nat} {L1 S1 : List AV} {σ1 : Sg} (C : CX p R s m args meth c y d G cA E B0) (he : (pc, (.iand : Instr), r) ∈ cod y) (h : stp nS sB (.iand) r pc L S σ = some (pc1, L1, S1, σ1)) (hnL : nL = mL y) (hR : REL G cA E B0 s.heap nL ad σ H locs ls L S) (kk : KT p l e R s m args below meth c Q G cA E B0 nL cells slots ad σ pc1 L1 S1 σ1) : W p l e R s m args below meth c H locs cells slots Q (F0 m pc ls (S.map (cv E ad))) := by
  obtain ⟨hx, hb, hml, hown, hts, hin, hEV, hB0, hfr, hlo⟩ := C
  have hok := ok_all he
  have hok' := (Bool.and_eq_true _ _).mp hok.2
  have hd : decode (bc y) pc = .ok (.iand, lenI (.iand) r) := of_decide_eq_true hok'.1
  have hres : resB (mi y).1 (isIn y) pc (.iand) r = true := hok'.2
  have hSok := hR.2.2.2.2.2.2
  unfold stp at h
  dsimp only at h
  have h9 := bI_some h
  clear h
  obtain ⟨b, S2, rfl, h⟩ := h9
  have h9 := bI_some h
  clear h
  obtain ⟨a, S3, rfl, h⟩ := h9
  cases h
  refine lv_iand (x := Int32.ofInt a) (y := Int32.ofInt b) hx hb hd ?_
  rw [e_iand]
  exact kk.stk hR (okc (ok_iand _ _) (okt (okt hSok)))
theorem st_ishr {r : List Int} {pc1 : Nat} {L1 S1 : List AV} {σ1 : Sg} (C : CX p R s m args meth c y d G cA E B0) (he : (pc, (.ishr : Instr), r) ∈ cod y) (h : stp nS sB (.ishr) r pc L S σ = some (pc1, L1, S1, σ1)) (hnL : nL = mL y) (hR : REL G cA E B0 s.heap nL ad σ H locs ls L S) (kk : KT p l e R s m args below meth c Q G cA E B0 nL cells slots ad σ pc1 L1 S1 σ1) : W p l e R s m args below meth c H locs cells slots Q (F0 m pc ls (S.map (cv E ad))) := by
  obtain ⟨hx, hb, hml, hown, hts, hin, hEV, hB0, hfr, hlo⟩ := C
  have hok := ok_all he
  have hok' := (Bool.and_eq_true _ _).mp hok.2
  have hd : decode (bc y) pc = .ok (.ishr, lenI (.ishr) r) := of_decide_eq_true hok'.1
  have hres : resB (mi y).1 (isIn y) pc (.ishr) r = true := hok'.2
  have hSok := hR.2.2.2.2.2.2
  unfold stp at h
  dsimp only at h
  have h9 := bI_some h
  clear h
  obtain ⟨b, S2, rfl, h⟩ := h9
  have h9 := bI_some h
  clear h
  obtain ⟨a, S3, rfl, h⟩ := h9
  cases h
  refine lv_ishr (x := Int32.ofInt a) (y := Int32.ofInt b) hx hb hd ?_
  rw [e_ishr]
  exact kk.stk hR (okc (ok_ishr _ _) (okt (okt hSok)))
theorem st_idiv {r : List Int} {pc1 : Nat} {L1 S1 : List AV} {σ1 : Sg} (C : CX p R s m args meth c y d G cA E B0) (he : (pc, (.idiv : Instr), r) ∈ cod y) (h : stp nS sB (.idiv) r pc L S σ = some (pc1, L1, S1, σ1)) (hnL : nL = mL y) (hR : REL G cA E B0 s.heap nL ad σ H locs ls L S) (kk : KT p l e R s m args below meth c Q G cA E B0 nL cells slots ad σ pc1 L1 S1 σ1) : W p l e R s m args below meth c H locs cells slots Q (F0 m pc ls (S.map (cv E ad))) := by
  obtain ⟨hx, hb, hml, hown, hts, hin, hEV, hB0, hfr, hlo⟩ := C
  have hok := ok_all he
  have hok' := (Bool.and_eq_true _ _).mp hok.2
  have hd : decode (bc y) pc = .ok (.idiv, lenI (.idiv) r) := of_decide_eq_true hok'.1
  have hres : resB (mi y).1 (isIn y) pc (.idiv) r = true := hok'.2
  have hSok := hR.2.2.2.2.2.2
  unfold stp at h
  dsimp only at h
  have h9 := bI_some h
  clear h
  obtain ⟨b, S2, rfl, h⟩ := h9
  have h9 := bI_some h
  clear h
  obtain ⟨a, S3, rfl, h⟩ := h9
  obtain ⟨hne, h⟩ := guardP_some h
  cases h
  have ha : -2147483648 ≤ a ∧ a < 2147483648 := okh (okt hSok)
  have hb2 : -2147483648 ≤ b ∧ b < 2147483648 := okh hSok
  refine lv_idiv (x := Int32.ofInt a) (y := Int32.ofInt b) hx hb hd (fun q => hne ((eq32 hb2 (by omega)).mp q)) ?_
  rw [div32 ha hb2]
  exact kk.stk hR (okc (w32_r _) (okt (okt hSok)))
theorem st_irem {r : List Int} {pc1 : Nat} {L1 S1 : List AV} {σ1 : Sg} (C : CX p R s m args meth c y d G cA E B0) (he : (pc, (.irem : Instr), r) ∈ cod y) (h : stp nS sB (.irem) r pc L S σ = some (pc1, L1, S1, σ1)) (hnL : nL = mL y) (hR : REL G cA E B0 s.heap nL ad σ H locs ls L S) (kk : KT p l e R s m args below meth c Q G cA E B0 nL cells slots ad σ pc1 L1 S1 σ1) : W p l e R s m args below meth c H locs cells slots Q (F0 m pc ls (S.map (cv E ad))) := by
  obtain ⟨hx, hb, hml, hown, hts, hin, hEV, hB0, hfr, hlo⟩ := C
  have hok := ok_all he
  have hok' := (Bool.and_eq_true _ _).mp hok.2
  have hd : decode (bc y) pc = .ok (.irem, lenI (.irem) r) := of_decide_eq_true hok'.1
  have hres : resB (mi y).1 (isIn y) pc (.irem) r = true := hok'.2
  have hSok := hR.2.2.2.2.2.2
  unfold stp at h
  dsimp only at h
  have h9 := bI_some h
  clear h
  obtain ⟨b, S2, rfl, h⟩ := h9
  have h9 := bI_some h
  clear h
  obtain ⟨a, S3, rfl, h⟩ := h9
  obtain ⟨hne, h⟩ := guardP_some h
  cases h
  have ha : -2147483648 ≤ a ∧ a < 2147483648 := okh (okt hSok)
  have hb2 : -2147483648 ≤ b ∧ b < 2147483648 := okh hSok
  refine lv_irem (x := Int32.ofInt a) (y := Int32.ofInt b) hx hb hd (fun q => hne ((eq32 hb2 (by omega)).mp q)) ?_
  rw [rem32 ha hb2]
  exact kk.stk hR (okc (tmod_r ⟨by omega, by omega⟩ ha) (okt (okt hSok)))
theorem st_ineg {r : List Int} {pc1 : Nat} {L1 S1 : List AV} {σ1 : Sg} (C : CX p R s m args meth c y d G cA E B0) (he : (pc, (.ineg : Instr), r) ∈ cod y) (h : stp nS sB (.ineg) r pc L S σ = some (pc1, L1, S1, σ1)) (hnL : nL = mL y) (hR : REL G cA E B0 s.heap nL ad σ H locs ls L S) (kk : KT p l e R s m args below meth c Q G cA E B0 nL cells slots ad σ pc1 L1 S1 σ1) : W p l e R s m args below meth c H locs cells slots Q (F0 m pc ls (S.map (cv E ad))) := by
  obtain ⟨hx, hb, hml, hown, hts, hin, hEV, hB0, hfr, hlo⟩ := C
  have hok := ok_all he
  have hok' := (Bool.and_eq_true _ _).mp hok.2
  have hd : decode (bc y) pc = .ok (.ineg, lenI (.ineg) r) := of_decide_eq_true hok'.1
  have hres : resB (mi y).1 (isIn y) pc (.ineg) r = true := hok'.2
  have hSok := hR.2.2.2.2.2.2
  unfold stp at h
  dsimp only at h
  have h9 := bI_some h
  clear h
  obtain ⟨a, S3, rfl, h⟩ := h9
  cases h
  refine lv_ineg (x := Int32.ofInt a) hx hb hd ?_
  rw [neg32]
  exact kk.stk hR (okc (w32_r _) (okt hSok))
theorem st_ladd {r : List Int} {pc1 : Nat} {L1 S1 : List AV} {σ1 : Sg} (C : CX p R s m args meth c y d G cA E B0) (he : (pc, (.ladd : Instr), r) ∈ cod y) (h : stp nS sB (.ladd) r pc L S σ = some (pc1, L1, S1, σ1)) (hnL : nL = mL y) (hR : REL G cA E B0 s.heap nL ad σ H locs ls L S) (kk : KT p l e R s m args below meth c Q G cA E B0 nL cells slots ad σ pc1 L1 S1 σ1) : W p l e R s m args below meth c H locs cells slots Q (F0 m pc ls (S.map (cv E ad))) := by
  obtain ⟨hx, hb, hml, hown, hts, hin, hEV, hB0, hfr, hlo⟩ := C
  have hok := ok_all he
  have hok' := (Bool.and_eq_true _ _).mp hok.2
  have hd : decode (bc y) pc = .ok (.ladd, lenI (.ladd) r) := of_decide_eq_true hok'.1
  have hres : resB (mi y).1 (isIn y) pc (.ladd) r = true := hok'.2
  have hSok := hR.2.2.2.2.2.2
  unfold stp at h
  dsimp only at h
  have h9 := bJ_some h
  clear h
  obtain ⟨b, S2, rfl, h⟩ := h9
  have h9 := bJ_some h
  clear h
  obtain ⟨a, S3, rfl, h⟩ := h9
  cases h
  refine lv_ladd (x := Int64.ofInt a) (y := Int64.ofInt b) hx hb hd ?_
  rw [add64]
  exact kk.stk hR (okc (w64_r _) (okt (okt hSok)))
theorem st_lsub {r : List Int} {pc1 : Nat} {L1 S1 : List AV} {σ1 : Sg} (C : CX p R s m args meth c y d G cA E B0) (he : (pc, (.lsub : Instr), r) ∈ cod y) (h : stp nS sB (.lsub) r pc L S σ = some (pc1, L1, S1, σ1)) (hnL : nL = mL y) (hR : REL G cA E B0 s.heap nL ad σ H locs ls L S) (kk : KT p l e R s m args below meth c Q G cA E B0 nL cells slots ad σ pc1 L1 S1 σ1) : W p l e R s m args below meth c H locs cells slots Q (F0 m pc ls (S.map (cv E ad))) := by
  obtain ⟨hx, hb, hml, hown, hts, hin, hEV, hB0, hfr, hlo⟩ := C
  have hok := ok_all he
  have hok' := (Bool.and_eq_true _ _).mp hok.2
  have hd : decode (bc y) pc = .ok (.lsub, lenI (.lsub) r) := of_decide_eq_true hok'.1
  have hres : resB (mi y).1 (isIn y) pc (.lsub) r = true := hok'.2
  have hSok := hR.2.2.2.2.2.2
  unfold stp at h
  dsimp only at h
  have h9 := bJ_some h
  clear h
  obtain ⟨b, S2, rfl, h⟩ := h9
  have h9 := bJ_some h
  clear h
  obtain ⟨a, S3, rfl, h⟩ := h9
  cases h
  refine lv_lsub (x := Int64.ofInt a) (y := Int64.ofInt b) hx hb hd ?_
  rw [sub64]
  exact kk.stk hR (okc (w64_r _) (okt (okt hSok)))
theorem st_lmul {r : List Int} {pc1 : Nat} {L1 S1 : List AV} {σ1 : Sg} (C : CX p R s m args meth c y d G cA E B0) (he : (pc, (.lmul : Instr), r) ∈ cod y) (h : stp nS sB (.lmul) r pc L S σ = some (pc1, L1, S1, σ1)) (hnL : nL = mL y) (hR : REL G cA E B0 s.heap nL ad σ H locs ls L S) (kk : KT p l e R s m args below meth c Q G cA E B0 nL cells slots ad σ pc1 L1 S1 σ1) : W p l e R s m args below meth c H locs cells slots Q (F0 m pc ls (S.map (cv E ad))) := by
  obtain ⟨hx, hb, hml, hown, hts, hin, hEV, hB0, hfr, hlo⟩ := C
  have hok := ok_all he
  have hok' := (Bool.and_eq_true _ _).mp hok.2
  have hd : decode (bc y) pc = .ok (.lmul, lenI (.lmul) r) := of_decide_eq_true hok'.1
  have hres : resB (mi y).1 (isIn y) pc (.lmul) r = true := hok'.2
  have hSok := hR.2.2.2.2.2.2
  unfold stp at h
  dsimp only at h
  have h9 := bJ_some h
  clear h
  obtain ⟨b, S2, rfl, h⟩ := h9
  have h9 := bJ_some h
  clear h
  obtain ⟨a, S3, rfl, h⟩ := h9
  cases h
  refine lv_lmul (x := Int64.ofInt a) (y := Int64.ofInt b) hx hb hd ?_
  rw [mul64]
  exact kk.stk hR (okc (w64_r _) (okt (okt hSok)))
theorem st_ldiv {r : List Int} {pc1 : Nat} {L1 S1 : List AV} {σ1 : Sg} (C : CX p R s m args meth c y d G cA E B0) (he : (pc, (.ldiv : Instr), r) ∈ cod y) (h : stp nS sB (.ldiv) r pc L S σ = some (pc1, L1, S1, σ1)) (hnL : nL = mL y) (hR : REL G cA E B0 s.heap nL ad σ H locs ls L S) (kk : KT p l e R s m args below meth c Q G cA E B0 nL cells slots ad σ pc1 L1 S1 σ1) : W p l e R s m args below meth c H locs cells slots Q (F0 m pc ls (S.map (cv E ad))) := by
  obtain ⟨hx, hb, hml, hown, hts, hin, hEV, hB0, hfr, hlo⟩ := C
  have hok := ok_all he
  have hok' := (Bool.and_eq_true _ _).mp hok.2
  have hd : decode (bc y) pc = .ok (.ldiv, lenI (.ldiv) r) := of_decide_eq_true hok'.1
  have hres : resB (mi y).1 (isIn y) pc (.ldiv) r = true := hok'.2
  have hSok := hR.2.2.2.2.2.2
  unfold stp at h
  dsimp only at h
  have h9 := bJ_some h
  clear h
  obtain ⟨b, S2, rfl, h⟩ := h9
  have h9 := bJ_some h
  clear h
  obtain ⟨a, S3, rfl, h⟩ := h9
  obtain ⟨hne, h⟩ := guardP_some h
  cases h
  have ha : -9223372036854775808 ≤ a ∧ a < 9223372036854775808 := okh (okt hSok)
  have hb2 : -9223372036854775808 ≤ b ∧ b < 9223372036854775808 := okh hSok
  refine lv_ldiv (x := Int64.ofInt a) (y := Int64.ofInt b) hx hb hd (fun q => hne (by rw [← t64 hb2.1 hb2.2, q]; rfl)) ?_
  rw [div64 ha hb2]
  exact kk.stk hR (okc (w64_r _) (okt (okt hSok)))
theorem st_lrem {r : List Int} {pc1 : Nat} {L1 S1 : List AV} {σ1 : Sg} (C : CX p R s m args meth c y d G cA E B0) (he : (pc, (.lrem : Instr), r) ∈ cod y) (h : stp nS sB (.lrem) r pc L S σ = some (pc1, L1, S1, σ1)) (hnL : nL = mL y) (hR : REL G cA E B0 s.heap nL ad σ H locs ls L S) (kk : KT p l e R s m args below meth c Q G cA E B0 nL cells slots ad σ pc1 L1 S1 σ1) : W p l e R s m args below meth c H locs cells slots Q (F0 m pc ls (S.map (cv E ad))) := by
  obtain ⟨hx, hb, hml, hown, hts, hin, hEV, hB0, hfr, hlo⟩ := C
  have hok := ok_all he
  have hok' := (Bool.and_eq_true _ _).mp hok.2
  have hd : decode (bc y) pc = .ok (.lrem, lenI (.lrem) r) := of_decide_eq_true hok'.1
  have hres : resB (mi y).1 (isIn y) pc (.lrem) r = true := hok'.2
  have hSok := hR.2.2.2.2.2.2
  unfold stp at h
  dsimp only at h
  have h9 := bJ_some h
  clear h
  obtain ⟨b, S2, rfl, h⟩ := h9
  have h9 := bJ_some h
  clear h
  obtain ⟨a, S3, rfl, h⟩ := h9
  obtain ⟨hne, h⟩ := guardP_some h
  cases h
  have ha : -9223372036854775808 ≤ a ∧ a < 9223372036854775808 := okh (okt hSok)
  have hb2 : -9223372036854775808 ≤ b ∧ b < 9223372036854775808 := okh hSok
  refine lv_lrem (x := Int64.ofInt a) (y := Int64.ofInt b) hx hb hd (fun q => hne (by rw [← t64 hb2.1 hb2.2, q]; rfl)) ?_
  rw [rem64 ha hb2]
  exact kk.stk hR (okc (tmod_r ⟨by omega, by omega⟩ ha) (okt (okt hSok)))
theorem st_lneg {r : List Int} {pc1 : Nat} {L1 S1 : List AV} {σ1 : Sg} (C : CX p R s m args meth c y d G cA E B0) (he : (pc, (.lneg : Instr), r) ∈ cod y) (h : stp nS sB (.lneg) r pc L S σ = some (pc1, L1, S1, σ1)) (hnL : nL = mL y) (hR : REL G cA E B0 s.heap nL ad σ H locs ls L S) (kk : KT p l e R s m args below meth c Q G cA E B0 nL cells slots ad σ pc1 L1 S1 σ1) : W p l e R s m args below meth c H locs cells slots Q (F0 m pc ls (S.map (cv E ad))) := by
  obtain ⟨hx, hb, hml, hown, hts, hin, hEV, hB0, hfr, hlo⟩ := C
  have hok := ok_all he
  have hok' := (Bool.and_eq_true _ _).mp hok.2
  have hd : decode (bc y) pc = .ok (.lneg, lenI (.lneg) r) := of_decide_eq_true hok'.1
  have hres : resB (mi y).1 (isIn y) pc (.lneg) r = true := hok'.2
  have hSok := hR.2.2.2.2.2.2
  unfold stp at h
  dsimp only at h
  have h9 := bJ_some h
  clear h
  obtain ⟨a, S3, rfl, h⟩ := h9
  cases h
  refine lv_lneg (x := Int64.ofInt a) hx hb hd ?_
  rw [neg64]
  exact kk.stk hR (okc (w64_r _) (okt hSok))
theorem st_lshr {r : List Int} {pc1 : Nat} {L1 S1 : List AV} {σ1 : Sg} (C : CX p R s m args meth c y d G cA E B0) (he : (pc, (.lshr : Instr), r) ∈ cod y) (h : stp nS sB (.lshr) r pc L S σ = some (pc1, L1, S1, σ1)) (hnL : nL = mL y) (hR : REL G cA E B0 s.heap nL ad σ H locs ls L S) (kk : KT p l e R s m args below meth c Q G cA E B0 nL cells slots ad σ pc1 L1 S1 σ1) : W p l e R s m args below meth c H locs cells slots Q (F0 m pc ls (S.map (cv E ad))) := by
  obtain ⟨hx, hb, hml, hown, hts, hin, hEV, hB0, hfr, hlo⟩ := C
  have hok := ok_all he
  have hok' := (Bool.and_eq_true _ _).mp hok.2
  have hd : decode (bc y) pc = .ok (.lshr, lenI (.lshr) r) := of_decide_eq_true hok'.1
  have hres : resB (mi y).1 (isIn y) pc (.lshr) r = true := hok'.2
  have hSok := hR.2.2.2.2.2.2
  unfold stp at h
  dsimp only at h
  have h9 := bI_some h
  clear h
  obtain ⟨b, S2, rfl, h⟩ := h9
  have h9 := bJ_some h
  clear h
  obtain ⟨a, S3, rfl, h⟩ := h9
  cases h
  refine lv_lshr (x := Int64.ofInt a) (y := Int32.ofInt b) hx hb hd (e_lshr a b) ?_
  exact kk.stk hR (okc (ok_lshr _ _) (okt (okt hSok)))
theorem st_lushr {r : List Int} {pc1 : Nat} {L1 S1 : List AV} {σ1 : Sg} (C : CX p R s m args meth c y d G cA E B0) (he : (pc, (.lushr : Instr), r) ∈ cod y) (h : stp nS sB (.lushr) r pc L S σ = some (pc1, L1, S1, σ1)) (hnL : nL = mL y) (hR : REL G cA E B0 s.heap nL ad σ H locs ls L S) (kk : KT p l e R s m args below meth c Q G cA E B0 nL cells slots ad σ pc1 L1 S1 σ1) : W p l e R s m args below meth c H locs cells slots Q (F0 m pc ls (S.map (cv E ad))) := by
  obtain ⟨hx, hb, hml, hown, hts, hin, hEV, hB0, hfr, hlo⟩ := C
  have hok := ok_all he
  have hok' := (Bool.and_eq_true _ _).mp hok.2
  have hd : decode (bc y) pc = .ok (.lushr, lenI (.lushr) r) := of_decide_eq_true hok'.1
  have hres : resB (mi y).1 (isIn y) pc (.lushr) r = true := hok'.2
  have hSok := hR.2.2.2.2.2.2
  unfold stp at h
  dsimp only at h
  have h9 := bI_some h
  clear h
  obtain ⟨b, S2, rfl, h⟩ := h9
  have h9 := bJ_some h
  clear h
  obtain ⟨a, S3, rfl, h⟩ := h9
  cases h
  refine lv_lushr (x := Int64.ofInt a) (y := Int32.ofInt b) hx hb hd (e_lushr a b) ?_
  exact kk.stk hR (okc (ok_lushr _ _) (okt (okt hSok)))
theorem st_lcmp {r : List Int} {pc1 : Nat} {L1 S1 : List AV} {σ1 : Sg} (C : CX p R s m args meth c y d G cA E B0) (he : (pc, (.lcmp : Instr), r) ∈ cod y) (h : stp nS sB (.lcmp) r pc L S σ = some (pc1, L1, S1, σ1)) (hnL : nL = mL y) (hR : REL G cA E B0 s.heap nL ad σ H locs ls L S) (kk : KT p l e R s m args below meth c Q G cA E B0 nL cells slots ad σ pc1 L1 S1 σ1) : W p l e R s m args below meth c H locs cells slots Q (F0 m pc ls (S.map (cv E ad))) := by
  obtain ⟨hx, hb, hml, hown, hts, hin, hEV, hB0, hfr, hlo⟩ := C
  have hok := ok_all he
  have hok' := (Bool.and_eq_true _ _).mp hok.2
  have hd : decode (bc y) pc = .ok (.lcmp, lenI (.lcmp) r) := of_decide_eq_true hok'.1
  have hres : resB (mi y).1 (isIn y) pc (.lcmp) r = true := hok'.2
  have hSok := hR.2.2.2.2.2.2
  unfold stp at h
  dsimp only at h
  have h9 := bJ_some h
  clear h
  obtain ⟨b, S2, rfl, h⟩ := h9
  have h9 := bJ_some h
  clear h
  obtain ⟨a, S3, rfl, h⟩ := h9
  cases h
  refine W.lcmp (x := Int64.ofInt a) (y := Int64.ofInt b) hx hb hd ?_
  rw [cmp64 (okh (okt hSok)) (okh hSok)]
  exact kk.stk hR (okc (lcm3_r _ _) (okt (okt hSok)))
theorem st_i2l {r : List Int} {pc1 : Nat} {L1 S1 : List AV} {σ1 : Sg} (C : CX p R s m args meth c y d G cA E B0) (he : (pc, (.i2l : Instr), r) ∈ cod y) (h : stp nS sB (.i2l) r pc L S σ = some (pc1, L1, S1, σ1)) (hnL : nL = mL y) (hR : REL G cA E B0 s.heap nL ad σ H locs ls L S) (kk : KT p l e R s m args below meth c Q G cA E B0 nL cells slots ad σ pc1 L1 S1 σ1) : W p l e R s m args below meth c H locs cells slots Q (F0 m pc ls (S.map (cv E ad))) := by
  obtain ⟨hx, hb, hml, hown, hts, hin, hEV, hB0, hfr, hlo⟩ := C
  have hok := ok_all he
  have hok' := (Bool.and_eq_true _ _).mp hok.2
  have hd : decode (bc y) pc = .ok (.i2l, lenI (.i2l) r) := of_decide_eq_true hok'.1
  have hres : resB (mi y).1 (isIn y) pc (.i2l) r = true := hok'.2
  have hSok := hR.2.2.2.2.2.2
  unfold stp at h
  dsimp only at h
  have h9 := bI_some h
  clear h
  obtain ⟨a, S3, rfl, h⟩ := h9
  cases h
  have ha : -2147483648 ≤ a ∧ a < 2147483648 := okh hSok
  refine lv_i2l (x := Int32.ofInt a) hx hb hd (i2l_ ha) ?_
  exact kk.stk hR (okc (show _ ∧ _ from ⟨by omega, by omega⟩) (okt hSok))
theorem st_l2i {r : List Int} {pc1 : Nat} {L1 S1 : List AV} {σ1 : Sg} (C : CX p R s m args meth c y d G cA E B0) (he : (pc, (.l2i : Instr), r) ∈ cod y) (h : stp nS sB (.l2i) r pc L S σ = some (pc1, L1, S1, σ1)) (hnL : nL = mL y) (hR : REL G cA E B0 s.heap nL ad σ H locs ls L S) (kk : KT p l e R s m args below meth c Q G cA E B0 nL cells slots ad σ pc1 L1 S1 σ1) : W p l e R s m args below meth c H locs cells slots Q (F0 m pc ls (S.map (cv E ad))) := by
  obtain ⟨hx, hb, hml, hown, hts, hin, hEV, hB0, hfr, hlo⟩ := C
  have hok := ok_all he
  have hok' := (Bool.and_eq_true _ _).mp hok.2
  have hd : decode (bc y) pc = .ok (.l2i, lenI (.l2i) r) := of_decide_eq_true hok'.1
  have hres : resB (mi y).1 (isIn y) pc (.l2i) r = true := hok'.2
  have hSok := hR.2.2.2.2.2.2
  unfold stp at h
  dsimp only at h
  have h9 := bJ_some h
  clear h
  obtain ⟨a, S3, rfl, h⟩ := h9
  cases h
  refine lv_l2i (x := Int64.ofInt a) hx hb hd (l2i_ a) ?_
  exact kk.stk hR (okc (w32_r _) (okt hSok))
theorem st_i2b {r : List Int} {pc1 : Nat} {L1 S1 : List AV} {σ1 : Sg} (C : CX p R s m args meth c y d G cA E B0) (he : (pc, (.i2b : Instr), r) ∈ cod y) (h : stp nS sB (.i2b) r pc L S σ = some (pc1, L1, S1, σ1)) (hnL : nL = mL y) (hR : REL G cA E B0 s.heap nL ad σ H locs ls L S) (kk : KT p l e R s m args below meth c Q G cA E B0 nL cells slots ad σ pc1 L1 S1 σ1) : W p l e R s m args below meth c H locs cells slots Q (F0 m pc ls (S.map (cv E ad))) := by
  obtain ⟨hx, hb, hml, hown, hts, hin, hEV, hB0, hfr, hlo⟩ := C
  have hok := ok_all he
  have hok' := (Bool.and_eq_true _ _).mp hok.2
  have hd : decode (bc y) pc = .ok (.i2b, lenI (.i2b) r) := of_decide_eq_true hok'.1
  have hres : resB (mi y).1 (isIn y) pc (.i2b) r = true := hok'.2
  have hSok := hR.2.2.2.2.2.2
  unfold stp at h
  dsimp only at h
  have h9 := bI_some h
  clear h
  obtain ⟨a, S3, rfl, h⟩ := h9
  cases h
  refine lv_i2b (x := Int32.ofInt a) hx hb hd (i2b_ a) ?_
  exact kk.stk hR (okc (show _ ∧ _ from ⟨by have := w8_r a; omega, by have := w8_r a; omega⟩) (okt hSok))
theorem st_i2c {r : List Int} {pc1 : Nat} {L1 S1 : List AV} {σ1 : Sg} (C : CX p R s m args meth c y d G cA E B0) (he : (pc, (.i2c : Instr), r) ∈ cod y) (h : stp nS sB (.i2c) r pc L S σ = some (pc1, L1, S1, σ1)) (hnL : nL = mL y) (hR : REL G cA E B0 s.heap nL ad σ H locs ls L S) (kk : KT p l e R s m args below meth c Q G cA E B0 nL cells slots ad σ pc1 L1 S1 σ1) : W p l e R s m args below meth c H locs cells slots Q (F0 m pc ls (S.map (cv E ad))) := by
  obtain ⟨hx, hb, hml, hown, hts, hin, hEV, hB0, hfr, hlo⟩ := C
  have hok := ok_all he
  have hok' := (Bool.and_eq_true _ _).mp hok.2
  have hd : decode (bc y) pc = .ok (.i2c, lenI (.i2c) r) := of_decide_eq_true hok'.1
  have hres : resB (mi y).1 (isIn y) pc (.i2c) r = true := hok'.2
  have hSok := hR.2.2.2.2.2.2
  unfold stp at h
  dsimp only at h
  have h9 := bI_some h
  clear h
  obtain ⟨a, S3, rfl, h⟩ := h9
  cases h
  refine lv_i2c (x := Int32.ofInt a) hx hb hd (i2c_ (okh hSok)) ?_
  exact kk.stk hR (okc (show _ ∧ _ from ⟨by have := w16u_r a; omega, by have := w16u_r a; omega⟩) (okt hSok))
theorem st_iconst {n : Int} {r : List Int} {pc1 : Nat} {L1 S1 : List AV} {σ1 : Sg} (C : CX p R s m args meth c y d G cA E B0) (he : (pc, (.iconst n : Instr), r) ∈ cod y) (h : stp nS sB (.iconst n) r pc L S σ = some (pc1, L1, S1, σ1)) (hnL : nL = mL y) (hR : REL G cA E B0 s.heap nL ad σ H locs ls L S) (kk : KT p l e R s m args below meth c Q G cA E B0 nL cells slots ad σ pc1 L1 S1 σ1) : W p l e R s m args below meth c H locs cells slots Q (F0 m pc ls (S.map (cv E ad))) := by
  obtain ⟨hx, hb, hml, hown, hts, hin, hEV, hB0, hfr, hlo⟩ := C
  have hok := ok_all he
  have hok' := (Bool.and_eq_true _ _).mp hok.2
  have hd : decode (bc y) pc = .ok (.iconst n, lenI (.iconst n) r) := of_decide_eq_true hok'.1
  have hres : resB (mi y).1 (isIn y) pc (.iconst n) r = true := hok'.2
  have hSok := hR.2.2.2.2.2.2
  unfold stp at h
  dsimp only at h
  obtain ⟨hn, h⟩ := bif0_some h
  rw [Bool.and_eq_true, decide_eq_true_eq, decide_eq_true_eq] at hn
  cases h
  refine lv_iconst (v := Int32.ofInt n) hx hb hd rfl ?_
  exact kk.stk hR (okc (show _ ∧ _ from ⟨by omega, by omega⟩) hSok)
theorem st_bipush {n : Int} {r : List Int} {pc1 : Nat} {L1 S1 : List AV} {σ1 : Sg} (C : CX p R s m args meth c y d G cA E B0) (he : (pc, (.bipush n : Instr), r) ∈ cod y) (h : stp nS sB (.bipush n) r pc L S σ = some (pc1, L1, S1, σ1)) (hnL : nL = mL y) (hR : REL G cA E B0 s.heap nL ad σ H locs ls L S) (kk : KT p l e R s m args below meth c Q G cA E B0 nL cells slots ad σ pc1 L1 S1 σ1) : W p l e R s m args below meth c H locs cells slots Q (F0 m pc ls (S.map (cv E ad))) := by
  obtain ⟨hx, hb, hml, hown, hts, hin, hEV, hB0, hfr, hlo⟩ := C
  have hok := ok_all he
  have hok' := (Bool.and_eq_true _ _).mp hok.2
  have hd : decode (bc y) pc = .ok (.bipush n, lenI (.bipush n) r) := of_decide_eq_true hok'.1
  have hres : resB (mi y).1 (isIn y) pc (.bipush n) r = true := hok'.2
  have hSok := hR.2.2.2.2.2.2
  unfold stp at h
  dsimp only at h
  obtain ⟨hn, h⟩ := bif0_some h
  rw [Bool.and_eq_true, decide_eq_true_eq, decide_eq_true_eq] at hn
  cases h
  refine lv_bipush (v := Int32.ofInt n) hx hb hd (bip_ hn.1 hn.2) ?_
  exact kk.stk hR (okc (show _ ∧ _ from ⟨by omega, by omega⟩) hSok)
theorem st_sipush {n : Int} {r : List Int} {pc1 : Nat} {L1 S1 : List AV} {σ1 : Sg} (C : CX p R s m args meth c y d G cA E B0) (he : (pc, (.sipush n : Instr), r) ∈ cod y) (h : stp nS sB (.sipush n) r pc L S σ = some (pc1, L1, S1, σ1)) (hnL : nL = mL y) (hR : REL G cA E B0 s.heap nL ad σ H locs ls L S) (kk : KT p l e R s m args below meth c Q G cA E B0 nL cells slots ad σ pc1 L1 S1 σ1) : W p l e R s m args below meth c H locs cells slots Q (F0 m pc ls (S.map (cv E ad))) := by
  obtain ⟨hx, hb, hml, hown, hts, hin, hEV, hB0, hfr, hlo⟩ := C
  have hok := ok_all he
  have hok' := (Bool.and_eq_true _ _).mp hok.2
  have hd : decode (bc y) pc = .ok (.sipush n, lenI (.sipush n) r) := of_decide_eq_true hok'.1
  have hres : resB (mi y).1 (isIn y) pc (.sipush n) r = true := hok'.2
  have hSok := hR.2.2.2.2.2.2
  unfold stp at h
  dsimp only at h
  obtain ⟨hn, h⟩ := bif0_some h
  rw [Bool.and_eq_true, decide_eq_true_eq, decide_eq_true_eq] at hn
  cases h
  refine lv_sipush (v := Int32.ofInt n) hx hb hd (sip_ hn.1 hn.2) ?_
  exact kk.stk hR (okc (show _ ∧ _ from ⟨by omega, by omega⟩) hSok)
theorem st_lconst {n : Fin 2} {r : List Int} {pc1 : Nat} {L1 S1 : List AV} {σ1 : Sg} (C : CX p R s m args meth c y d G cA E B0) (he : (pc, (.lconst n : Instr), r) ∈ cod y) (h : stp nS sB (.lconst n) r pc L S σ = some (pc1, L1, S1, σ1)) (hnL : nL = mL y) (hR : REL G cA E B0 s.heap nL ad σ H locs ls L S) (kk : KT p l e R s m args below meth c Q G cA E B0 nL cells slots ad σ pc1 L1 S1 σ1) : W p l e R s m args below meth c H locs cells slots Q (F0 m pc ls (S.map (cv E ad))) := by
  obtain ⟨hx, hb, hml, hown, hts, hin, hEV, hB0, hfr, hlo⟩ := C
  have hok := ok_all he
  have hok' := (Bool.and_eq_true _ _).mp hok.2
  have hd : decode (bc y) pc = .ok (.lconst n, lenI (.lconst n) r) := of_decide_eq_true hok'.1
  have hres : resB (mi y).1 (isIn y) pc (.lconst n) r = true := hok'.2
  have hSok := hR.2.2.2.2.2.2
  unfold stp at h
  dsimp only at h
  cases h
  refine lv_lconst (v := Int64.ofInt ((n : Nat) : Int)) hx hb hd (by rw [Int64.ofInt_eq_ofNat]) ?_
  have := n.2
  exact kk.stk hR (okc (show _ ∧ _ from ⟨by omega, by omega⟩) hSok)
theorem st_null {r : List Int} {pc1 : Nat} {L1 S1 : List AV} {σ1 : Sg} (C : CX p R s m args meth c y d G cA E B0) (he : (pc, (.aconst_null : Instr), r) ∈ cod y) (h : stp nS sB (.aconst_null) r pc L S σ = some (pc1, L1, S1, σ1)) (hnL : nL = mL y) (hR : REL G cA E B0 s.heap nL ad σ H locs ls L S) (kk : KT p l e R s m args below meth c Q G cA E B0 nL cells slots ad σ pc1 L1 S1 σ1) : W p l e R s m args below meth c H locs cells slots Q (F0 m pc ls (S.map (cv E ad))) := by
  obtain ⟨hx, hb, hml, hown, hts, hin, hEV, hB0, hfr, hlo⟩ := C
  have hok := ok_all he
  have hok' := (Bool.and_eq_true _ _).mp hok.2
  have hd : decode (bc y) pc = .ok (.aconst_null, lenI (.aconst_null) r) := of_decide_eq_true hok'.1
  have hres : resB (mi y).1 (isIn y) pc (.aconst_null) r = true := hok'.2
  have hSok := hR.2.2.2.2.2.2
  unfold stp at h
  dsimp only at h
  cases h
  refine lv_null hx hb hd ?_
  exact kk.stk hR (okc (show (-1 : Int) < _ by omega) hSok)
theorem st_iload_n {k : Fin 4} {r : List Int} {pc1 : Nat} {L1 S1 : List AV} {σ1 : Sg} (C : CX p R s m args meth c y d G cA E B0) (he : (pc, (.iload_n k : Instr), r) ∈ cod y) (h : stp nS sB (.iload_n k) r pc L S σ = some (pc1, L1, S1, σ1)) (hnL : nL = mL y) (hR : REL G cA E B0 s.heap nL ad σ H locs ls L S) (kk : KT p l e R s m args below meth c Q G cA E B0 nL cells slots ad σ pc1 L1 S1 σ1) : W p l e R s m args below meth c H locs cells slots Q (F0 m pc ls (S.map (cv E ad))) := by
  obtain ⟨hx, hb, hml, hown, hts, hin, hEV, hB0, hfr, hlo⟩ := C
  have hok := ok_all he
  have hok' := (Bool.and_eq_true _ _).mp hok.2
  have hd : decode (bc y) pc = .ok (.iload_n k, lenI (.iload_n k) r) := of_decide_eq_true hok'.1
  have hres : resB (mi y).1 (isIn y) pc (.iload_n k) r = true := hok'.2
  have hSok := hR.2.2.2.2.2.2
  unfold stp at h
  dsimp only at h
  obtain ⟨a, hl, hq⟩ := gvar_some h
  cases hq
  refine lv_iload_n (x := Int32.ofInt a) hx hb hd rfl (hR.2.2.2.1.2.2.2 _ _ hl (show (0 : Nat) ≠ 3 by decide)) ?_
  exact kk.stk hR (okc (hR.2.2.2.2.2.1 _ (List.mem_of_getElem? hl)) hSok)
theorem st_iload {k : Nat} {r : List Int} {pc1 : Nat} {L1 S1 : List AV} {σ1 : Sg} (C : CX p R s m args meth c y d G cA E B0) (he : (pc, (.iload k : Instr), r) ∈ cod y) (h : stp nS sB (.iload k) r pc L S σ = some (pc1, L1, S1, σ1)) (hnL : nL = mL y) (hR : REL G cA E B0 s.heap nL ad σ H locs ls L S) (kk : KT p l e R s m args below meth c Q G cA E B0 nL cells slots ad σ pc1 L1 S1 σ1) : W p l e R s m args below meth c H locs cells slots Q (F0 m pc ls (S.map (cv E ad))) := by
  obtain ⟨hx, hb, hml, hown, hts, hin, hEV, hB0, hfr, hlo⟩ := C
  have hok := ok_all he
  have hok' := (Bool.and_eq_true _ _).mp hok.2
  have hd : decode (bc y) pc = .ok (.iload k, lenI (.iload k) r) := of_decide_eq_true hok'.1
  have hres : resB (mi y).1 (isIn y) pc (.iload k) r = true := hok'.2
  have hSok := hR.2.2.2.2.2.2
  unfold stp at h
  dsimp only at h
  obtain ⟨a, hl, hq⟩ := gvar_some h
  cases hq
  refine lv_iload (x := Int32.ofInt a) hx hb hd (hR.2.2.2.1.2.2.2 _ _ hl (show (0 : Nat) ≠ 3 by decide)) ?_
  exact kk.stk hR (okc (hR.2.2.2.2.2.1 _ (List.mem_of_getElem? hl)) hSok)
theorem st_lload_n {k : Fin 4} {r : List Int} {pc1 : Nat} {L1 S1 : List AV} {σ1 : Sg} (C : CX p R s m args meth c y d G cA E B0) (he : (pc, (.lload_n k : Instr), r) ∈ cod y) (h : stp nS sB (.lload_n k) r pc L S σ = some (pc1, L1, S1, σ1)) (hnL : nL = mL y) (hR : REL G cA E B0 s.heap nL ad σ H locs ls L S) (kk : KT p l e R s m args below meth c Q G cA E B0 nL cells slots ad σ pc1 L1 S1 σ1) : W p l e R s m args below meth c H locs cells slots Q (F0 m pc ls (S.map (cv E ad))) := by
  obtain ⟨hx, hb, hml, hown, hts, hin, hEV, hB0, hfr, hlo⟩ := C
  have hok := ok_all he
  have hok' := (Bool.and_eq_true _ _).mp hok.2
  have hd : decode (bc y) pc = .ok (.lload_n k, lenI (.lload_n k) r) := of_decide_eq_true hok'.1
  have hres : resB (mi y).1 (isIn y) pc (.lload_n k) r = true := hok'.2
  have hSok := hR.2.2.2.2.2.2
  unfold stp at h
  dsimp only at h
  obtain ⟨a, hl, hq⟩ := gvar_some h
  cases hq
  refine lv_lload_n (x := Int64.ofInt a) hx hb hd rfl (hR.2.2.2.1.2.2.2 _ _ hl (show (1 : Nat) ≠ 3 by decide)) ?_
  exact kk.stk hR (okc (hR.2.2.2.2.2.1 _ (List.mem_of_getElem? hl)) hSok)
theorem st_lload {k : Nat} {r : List Int} {pc1 : Nat} {L1 S1 : List AV} {σ1 : Sg} (C : CX p R s m args meth c y d G cA E B0) (he : (pc, (.lload k : Instr), r) ∈ cod y) (h : stp nS sB (.lload k) r pc L S σ = some (pc1, L1, S1, σ1)) (hnL : nL = mL y) (hR : REL G cA E B0 s.heap nL ad σ H locs ls L S) (kk : KT p l e R s m args below meth c Q G cA E B0 nL cells slots ad σ pc1 L1 S1 σ1) : W p l e R s m args below meth c H locs cells slots Q (F0 m pc ls (S.map (cv E ad))) := by
  obtain ⟨hx, hb, hml, hown, hts, hin, hEV, hB0, hfr, hlo⟩ := C
  have hok := ok_all he
  have hok' := (Bool.and_eq_true _ _).mp hok.2
  have hd : decode (bc y) pc = .ok (.lload k, lenI (.lload k) r) := of_decide_eq_true hok'.1
  have hres : resB (mi y).1 (isIn y) pc (.lload k) r = true := hok'.2
  have hSok := hR.2.2.2.2.2.2
  unfold stp at h
  dsimp only at h
  obtain ⟨a, hl, hq⟩ := gvar_some h
  cases hq
  refine lv_lload (x := Int64.ofInt a) hx hb hd (hR.2.2.2.1.2.2.2 _ _ hl (show (1 : Nat) ≠ 3 by decide)) ?_
  exact kk.stk hR (okc (hR.2.2.2.2.2.1 _ (List.mem_of_getElem? hl)) hSok)
theorem st_aload_n {k : Fin 4} {r : List Int} {pc1 : Nat} {L1 S1 : List AV} {σ1 : Sg} (C : CX p R s m args meth c y d G cA E B0) (he : (pc, (.aload_n k : Instr), r) ∈ cod y) (h : stp nS sB (.aload_n k) r pc L S σ = some (pc1, L1, S1, σ1)) (hnL : nL = mL y) (hR : REL G cA E B0 s.heap nL ad σ H locs ls L S) (kk : KT p l e R s m args below meth c Q G cA E B0 nL cells slots ad σ pc1 L1 S1 σ1) : W p l e R s m args below meth c H locs cells slots Q (F0 m pc ls (S.map (cv E ad))) := by
  obtain ⟨hx, hb, hml, hown, hts, hin, hEV, hB0, hfr, hlo⟩ := C
  have hok := ok_all he
  have hok' := (Bool.and_eq_true _ _).mp hok.2
  have hd : decode (bc y) pc = .ok (.aload_n k, lenI (.aload_n k) r) := of_decide_eq_true hok'.1
  have hres : resB (mi y).1 (isIn y) pc (.aload_n k) r = true := hok'.2
  have hSok := hR.2.2.2.2.2.2
  unfold stp at h
  dsimp only at h
  obtain ⟨a, hl, hq⟩ := gvar_some h
  cases hq
  have hv : ls[(k : Nat)]? = some (.val (cvR E ad a)) := hR.2.2.2.1.2.2.2 _ _ hl (show (2 : Nat) ≠ 3 by decide)
  have kw : W p l e R s m args below meth c H locs cells slots Q (F0 m (pc + 1) ls (cvR E ad a :: S.map (cv E ad))) := kk.stk hR (okc (hR.2.2.2.2.2.1 _ (List.mem_of_getElem? hl)) hSok)
  rcases cvR_or hEV.2.2.2.2 ad a with q | ⟨z, q⟩
  · rw [q] at hv kw
    exact lv_aload_nN hx hb hd rfl hv kw
  · rw [q] at hv kw
    exact lv_aload_n hx hb hd rfl hv kw
theorem st_aload {k : Nat} {r : List Int} {pc1 : Nat} {L1 S1 : List AV} {σ1 : Sg} (C : CX p R s m args meth c y d G cA E B0) (he : (pc, (.aload k : Instr), r) ∈ cod y) (h : stp nS sB (.aload k) r pc L S σ = some (pc1, L1, S1, σ1)) (hnL : nL = mL y) (hR : REL G cA E B0 s.heap nL ad σ H locs ls L S) (kk : KT p l e R s m args below meth c Q G cA E B0 nL cells slots ad σ pc1 L1 S1 σ1) : W p l e R s m args below meth c H locs cells slots Q (F0 m pc ls (S.map (cv E ad))) := by
  obtain ⟨hx, hb, hml, hown, hts, hin, hEV, hB0, hfr, hlo⟩ := C
  have hok := ok_all he
  have hok' := (Bool.and_eq_true _ _).mp hok.2
  have hd : decode (bc y) pc = .ok (.aload k, lenI (.aload k) r) := of_decide_eq_true hok'.1
  have hres : resB (mi y).1 (isIn y) pc (.aload k) r = true := hok'.2
  have hSok := hR.2.2.2.2.2.2
  unfold stp at h
  dsimp only at h
  obtain ⟨a, hl, hq⟩ := gvar_some h
  cases hq
  have hv : ls[(k : Nat)]? = some (.val (cvR E ad a)) := hR.2.2.2.1.2.2.2 _ _ hl (show (2 : Nat) ≠ 3 by decide)
  have kw : W p l e R s m args below meth c H locs cells slots Q (F0 m (pc + 2) ls (cvR E ad a :: S.map (cv E ad))) := kk.stk hR (okc (hR.2.2.2.2.2.1 _ (List.mem_of_getElem? hl)) hSok)
  rcases cvR_or hEV.2.2.2.2 ad a with q | ⟨z, q⟩
  · rw [q] at hv kw
    exact lv_aloadN hx hb hd hv kw
  · rw [q] at hv kw
    exact lv_aload hx hb hd hv kw
theorem st_istore_n {k : Fin 4} {r : List Int} {pc1 : Nat} {L1 S1 : List AV} {σ1 : Sg} (C : CX p R s m args meth c y d G cA E B0) (he : (pc, (.istore_n k : Instr), r) ∈ cod y) (h : stp nS sB (.istore_n k) r pc L S σ = some (pc1, L1, S1, σ1)) (hnL : nL = mL y) (hR : REL G cA E B0 s.heap nL ad σ H locs ls L S) (kk : KT p l e R s m args below meth c Q G cA E B0 nL cells slots ad σ pc1 L1 S1 σ1) : W p l e R s m args below meth c H locs cells slots Q (F0 m pc ls (S.map (cv E ad))) := by
  obtain ⟨hx, hb, hml, hown, hts, hin, hEV, hB0, hfr, hlo⟩ := C
  have hok := ok_all he
  have hok' := (Bool.and_eq_true _ _).mp hok.2
  have hd : decode (bc y) pc = .ok (.istore_n k, lenI (.istore_n k) r) := of_decide_eq_true hok'.1
  have hres : resB (mi y).1 (isIn y) pc (.istore_n k) r = true := hok'.2
  have hSok := hR.2.2.2.2.2.2
  unfold stp at h
  dsimp only at h
  obtain ⟨a, S2, L2, rfl, hs, hq⟩ := svar1_some (by decide) h
  cases hq
  refine lv_istore_n (x := Int32.ofInt a) (nL := nL) hx hb hd rfl hR.2.2.2.1.has (by have := (sto1_spec hs).1; rw [hR.2.2.2.1.2.1] at this; exact this) rfl (fun ls1 hl1 => ?_)
  exact kk.same hR (hR.2.2.2.1.sto1 hEV.2.2.2.2 hs hl1) (fun q hq => (sto1_spec hs).2.2.1 q hq |>.elim (hR.2.2.2.2.2.1 q) (fun z => z.elim (fun z => z ▸ okh hSok) (fun z => z ▸ trivial))) (okt hSok)
theorem st_istore {k : Nat} {r : List Int} {pc1 : Nat} {L1 S1 : List AV} {σ1 : Sg} (C : CX p R s m args meth c y d G cA E B0) (he : (pc, (.istore k : Instr), r) ∈ cod y) (h : stp nS sB (.istore k) r pc L S σ = some (pc1, L1, S1, σ1)) (hnL : nL = mL y) (hR : REL G cA E B0 s.heap nL ad σ H locs ls L S) (kk : KT p l e R s m args below meth c Q G cA E B0 nL cells slots ad σ pc1 L1 S1 σ1) : W p l e R s m args below meth c H locs cells slots Q (F0 m pc ls (S.map (cv E ad))) := by
  obtain ⟨hx, hb, hml, hown, hts, hin, hEV, hB0, hfr, hlo⟩ := C
  have hok := ok_all he
  have hok' := (Bool.and_eq_true _ _).mp hok.2
  have hd : decode (bc y) pc = .ok (.istore k, lenI (.istore k) r) := of_decide_eq_true hok'.1
  have hres : resB (mi y).1 (isIn y) pc (.istore k) r = true := hok'.2
  have hSok := hR.2.2.2.2.2.2
  unfold stp at h
  dsimp only at h
  obtain ⟨a, S2, L2, rfl, hs, hq⟩ := svar1_some (by decide) h
  cases hq
  refine lv_istore (x := Int32.ofInt a) (nL := nL) hx hb hd hR.2.2.2.1.has (by have := (sto1_spec hs).1; rw [hR.2.2.2.1.2.1] at this; exact this) rfl (fun ls1 hl1 => ?_)
  exact kk.same hR (hR.2.2.2.1.sto1 hEV.2.2.2.2 hs hl1) (fun q hq => (sto1_spec hs).2.2.1 q hq |>.elim (hR.2.2.2.2.2.1 q) (fun z => z.elim (fun z => z ▸ okh hSok) (fun z => z ▸ trivial))) (okt hSok)
theorem st_lstore_n {k : Fin 4} {r : List Int} {pc1 : Nat} {L1 S1 : List AV} {σ1 : Sg} (C : CX p R s m args meth c y d G cA E B0) (he : (pc, (.lstore_n k : Instr), r) ∈ cod y) (h : stp nS sB (.lstore_n k) r pc L S σ = some (pc1, L1, S1, σ1)) (hnL : nL = mL y) (hR : REL G cA E B0 s.heap nL ad σ H locs ls L S) (kk : KT p l e R s m args below meth c Q G cA E B0 nL cells slots ad σ pc1 L1 S1 σ1) : W p l e R s m args below meth c H locs cells slots Q (F0 m pc ls (S.map (cv E ad))) := by
  obtain ⟨hx, hb, hml, hown, hts, hin, hEV, hB0, hfr, hlo⟩ := C
  have hok := ok_all he
  have hok' := (Bool.and_eq_true _ _).mp hok.2
  have hd : decode (bc y) pc = .ok (.lstore_n k, lenI (.lstore_n k) r) := of_decide_eq_true hok'.1
  have hres : resB (mi y).1 (isIn y) pc (.lstore_n k) r = true := hok'.2
  have hSok := hR.2.2.2.2.2.2
  unfold stp at h
  dsimp only at h
  obtain ⟨a, S2, L2, rfl, hs, hq⟩ := svar2_some h
  cases hq
  refine lv_lstore_n (x := Int64.ofInt a) (nL := nL) hx hb hd rfl hR.2.2.2.1.has (by have := (sto2_spec hs).1; rw [hR.2.2.2.1.2.1] at this; exact this) rfl (fun ls1 hl1 => ?_)
  exact kk.same hR (hR.2.2.2.1.sto2 hEV.2.2.2.2 hs hl1) (fun q hq => (sto2_spec hs).2.2.1 q hq |>.elim (hR.2.2.2.2.2.1 q) (fun z => z.elim (fun z => z ▸ okh hSok) (fun z => z ▸ trivial))) (okt hSok)
theorem st_lstore {k : Nat} {r : List Int} {pc1 : Nat} {L1 S1 : List AV} {σ1 : Sg} (C : CX p R s m args meth c y d G cA E B0) (he : (pc, (.lstore k : Instr), r) ∈ cod y) (h : stp nS sB (.lstore k) r pc L S σ = some (pc1, L1, S1, σ1)) (hnL : nL = mL y) (hR : REL G cA E B0 s.heap nL ad σ H locs ls L S) (kk : KT p l e R s m args below meth c Q G cA E B0 nL cells slots ad σ pc1 L1 S1 σ1) : W p l e R s m args below meth c H locs cells slots Q (F0 m pc ls (S.map (cv E ad))) := by
  obtain ⟨hx, hb, hml, hown, hts, hin, hEV, hB0, hfr, hlo⟩ := C
  have hok := ok_all he
  have hok' := (Bool.and_eq_true _ _).mp hok.2
  have hd : decode (bc y) pc = .ok (.lstore k, lenI (.lstore k) r) := of_decide_eq_true hok'.1
  have hres : resB (mi y).1 (isIn y) pc (.lstore k) r = true := hok'.2
  have hSok := hR.2.2.2.2.2.2
  unfold stp at h
  dsimp only at h
  obtain ⟨a, S2, L2, rfl, hs, hq⟩ := svar2_some h
  cases hq
  refine lv_lstore (x := Int64.ofInt a) (nL := nL) hx hb hd hR.2.2.2.1.has (by have := (sto2_spec hs).1; rw [hR.2.2.2.1.2.1] at this; exact this) rfl (fun ls1 hl1 => ?_)
  exact kk.same hR (hR.2.2.2.1.sto2 hEV.2.2.2.2 hs hl1) (fun q hq => (sto2_spec hs).2.2.1 q hq |>.elim (hR.2.2.2.2.2.1 q) (fun z => z.elim (fun z => z ▸ okh hSok) (fun z => z ▸ trivial))) (okt hSok)
theorem st_astore_n {k : Fin 4} {r : List Int} {pc1 : Nat} {L1 S1 : List AV} {σ1 : Sg} (C : CX p R s m args meth c y d G cA E B0) (he : (pc, (.astore_n k : Instr), r) ∈ cod y) (h : stp nS sB (.astore_n k) r pc L S σ = some (pc1, L1, S1, σ1)) (hnL : nL = mL y) (hR : REL G cA E B0 s.heap nL ad σ H locs ls L S) (kk : KT p l e R s m args below meth c Q G cA E B0 nL cells slots ad σ pc1 L1 S1 σ1) : W p l e R s m args below meth c H locs cells slots Q (F0 m pc ls (S.map (cv E ad))) := by
  obtain ⟨hx, hb, hml, hown, hts, hin, hEV, hB0, hfr, hlo⟩ := C
  have hok := ok_all he
  have hok' := (Bool.and_eq_true _ _).mp hok.2
  have hd : decode (bc y) pc = .ok (.astore_n k, lenI (.astore_n k) r) := of_decide_eq_true hok'.1
  have hres : resB (mi y).1 (isIn y) pc (.astore_n k) r = true := hok'.2
  have hSok := hR.2.2.2.2.2.2
  unfold stp at h
  dsimp only at h
  obtain ⟨a, S2, L2, rfl, hs, hq⟩ := svar1_some (by decide) h
  cases hq
  have hk : (k : Nat) < nL := by have := (sto1_spec hs).1; rw [hR.2.2.2.1.2.1] at this; exact this
  have kw : ∀ ls1, lv_has ls1 nL (((k : Nat), cvR E ad a) :: (prs E ad L).filter (fun q => !(q.1 == (k : Nat)) && !(q.1 + 1 == (k : Nat) && q.2.category == 2))) → W p l e R s m args below meth c H locs cells slots Q (F0 m (pc + 1) ls1 (S1.map (cv E ad))) := fun ls1 hl1 => kk.same hR (hR.2.2.2.1.sto1 hEV.2.2.2.2 hs hl1) (fun q hq => (sto1_spec hs).2.2.1 q hq |>.elim (hR.2.2.2.2.2.1 q) (fun z => z.elim (fun z => z ▸ okh hSok) (fun z => z ▸ trivial))) (okt hSok)
  show W p l e R s m args below meth c H locs cells slots Q (F0 m pc ls (cvR E ad a :: S1.map (cv E ad)))
  rcases cvR_or hEV.2.2.2.2 ad a with q | ⟨z, q⟩
  · rw [q] at kw ⊢
    exact lv_astore_nN (nL := nL) hx hb hd rfl hR.2.2.2.1.has hk rfl kw
  · rw [q] at kw ⊢
    exact lv_astore_n (nL := nL) hx hb hd rfl hR.2.2.2.1.has hk rfl kw
theorem st_iinc {k : Nat} {n : Int} {r : List Int} {pc1 : Nat} {L1 S1 : List AV} {σ1 : Sg} (C : CX p R s m args meth c y d G cA E B0) (he : (pc, (.iinc k n : Instr), r) ∈ cod y) (h : stp nS sB (.iinc k n) r pc L S σ = some (pc1, L1, S1, σ1)) (hnL : nL = mL y) (hR : REL G cA E B0 s.heap nL ad σ H locs ls L S) (kk : KT p l e R s m args below meth c Q G cA E B0 nL cells slots ad σ pc1 L1 S1 σ1) : W p l e R s m args below meth c H locs cells slots Q (F0 m pc ls (S.map (cv E ad))) := by
  obtain ⟨hx, hb, hml, hown, hts, hin, hEV, hB0, hfr, hlo⟩ := C
  have hok := ok_all he
  have hok' := (Bool.and_eq_true _ _).mp hok.2
  have hd : decode (bc y) pc = .ok (.iinc k n, lenI (.iinc k n) r) := of_decide_eq_true hok'.1
  have hres : resB (mi y).1 (isIn y) pc (.iinc k n) r = true := hok'.2
  have hSok := hR.2.2.2.2.2.2
  unfold stp at h
  dsimp only at h
  have h : (match ld L k 0 with
    | some a => match sto1 L k (0, w32 (a + n)) with
      | some L => some (pc + 3, L, S, σ)
      | none => none
    | none => none) = some (pc1, L1, S1, σ1) := h
  cases hl : ld L k 0 with
  | none => rw [hl] at h; cases h
  | some a =>
    rw [hl] at h
    dsimp only at h
    cases hs : sto1 L k (0, w32 (a + n)) with
    | none => rw [hs] at h; cases h
    | some L2 =>
      rw [hs] at h
      cases h
      obtain ⟨j, hj⟩ := List.getElem?_of_mem ((prs_mem (E := E) (ad := ad) (L := L) (z := (k, .int (Int32.ofInt a)))).mpr ⟨(0, a), ld_some hl, show (0 : Nat) ≠ 3 by decide, rfl⟩)
      refine lv_iinc (x := Int32.ofInt a) (v := Int32.ofInt (w32 (a + n))) (nL := nL) (k := j) hx hb hd hR.2.2.2.1.has hj (add32 a n) (by have := (sto1_spec hs).1; rw [hR.2.2.2.1.2.1] at this; exact this) rfl (fun ls1 hl1 => ?_)
      exact kk.same hR (hR.2.2.2.1.sto1 hEV.2.2.2.2 hs hl1) (fun q hq => (sto1_spec hs).2.2.1 q hq |>.elim (hR.2.2.2.2.2.1 q) (fun z => z.elim (fun z => z ▸ w32_r _) (fun z => z ▸ trivial))) hSok
theorem st_dup {r : List Int} {pc1 : Nat} {L1 S1 : List AV} {σ1 : Sg} (C : CX p R s m args meth c y d G cA E B0) (he : (pc, (.dup : Instr), r) ∈ cod y) (h : stp nS sB (.dup) r pc L S σ = some (pc1, L1, S1, σ1)) (hnL : nL = mL y) (hR : REL G cA E B0 s.heap nL ad σ H locs ls L S) (kk : KT p l e R s m args below meth c Q G cA E B0 nL cells slots ad σ pc1 L1 S1 σ1) : W p l e R s m args below meth c H locs cells slots Q (F0 m pc ls (S.map (cv E ad))) := by
  obtain ⟨hx, hb, hml, hown, hts, hin, hEV, hB0, hfr, hlo⟩ := C
  have hok := ok_all he
  have hok' := (Bool.and_eq_true _ _).mp hok.2
  have hd : decode (bc y) pc = .ok (.dup, lenI (.dup) r) := of_decide_eq_true hok'.1
  have hres : resB (mi y).1 (isIn y) pc (.dup) r = true := hok'.2
  have hSok := hR.2.2.2.2.2.2
  unfold stp at h
  dsimp only at h
  cases S with
  | nil => cases h
  | cons q S2 =>
    obtain ⟨hn, h⟩ := bif0_some h
    cases h
    have hq : q.1 ≠ 1 := fun e1 => by rw [e1] at hn; cases hn
    exact lv_dup hx hb hd (cv_cat hEV.2.2.2.2 hq) (kk.stk hR (okc (okh hSok) hSok))
theorem st_pop {r : List Int} {pc1 : Nat} {L1 S1 : List AV} {σ1 : Sg} (C : CX p R s m args meth c y d G cA E B0) (he : (pc, (.pop : Instr), r) ∈ cod y) (h : stp nS sB (.pop) r pc L S σ = some (pc1, L1, S1, σ1)) (hnL : nL = mL y) (hR : REL G cA E B0 s.heap nL ad σ H locs ls L S) (kk : KT p l e R s m args below meth c Q G cA E B0 nL cells slots ad σ pc1 L1 S1 σ1) : W p l e R s m args below meth c H locs cells slots Q (F0 m pc ls (S.map (cv E ad))) := by
  obtain ⟨hx, hb, hml, hown, hts, hin, hEV, hB0, hfr, hlo⟩ := C
  have hok := ok_all he
  have hok' := (Bool.and_eq_true _ _).mp hok.2
  have hd : decode (bc y) pc = .ok (.pop, lenI (.pop) r) := of_decide_eq_true hok'.1
  have hres : resB (mi y).1 (isIn y) pc (.pop) r = true := hok'.2
  have hSok := hR.2.2.2.2.2.2
  unfold stp at h
  dsimp only at h
  cases S with
  | nil => cases h
  | cons q S2 =>
    obtain ⟨hn, h⟩ := bif0_some h
    cases h
    have hq : q.1 ≠ 1 := fun e1 => by rw [e1] at hn; cases hn
    exact lv_pop hx hb hd (cv_cat hEV.2.2.2.2 hq) (kk.stk hR (okt hSok))
theorem st_dup_x1 {r : List Int} {pc1 : Nat} {L1 S1 : List AV} {σ1 : Sg} (C : CX p R s m args meth c y d G cA E B0) (he : (pc, (.dup_x1 : Instr), r) ∈ cod y) (h : stp nS sB (.dup_x1) r pc L S σ = some (pc1, L1, S1, σ1)) (hnL : nL = mL y) (hR : REL G cA E B0 s.heap nL ad σ H locs ls L S) (kk : KT p l e R s m args below meth c Q G cA E B0 nL cells slots ad σ pc1 L1 S1 σ1) : W p l e R s m args below meth c H locs cells slots Q (F0 m pc ls (S.map (cv E ad))) := by
  obtain ⟨hx, hb, hml, hown, hts, hin, hEV, hB0, hfr, hlo⟩ := C
  have hok := ok_all he
  have hok' := (Bool.and_eq_true _ _).mp hok.2
  have hd : decode (bc y) pc = .ok (.dup_x1, lenI (.dup_x1) r) := of_decide_eq_true hok'.1
  have hres : resB (mi y).1 (isIn y) pc (.dup_x1) r = true := hok'.2
  have hSok := hR.2.2.2.2.2.2
  unfold stp at h
  dsimp only at h
  match S, h, hSok, hR with
  | [], h, _, _ => cases h
  | [_], h, _, _ => cases h
  | q :: q2 :: S2, h, hSok, hR =>
    obtain ⟨hn, h⟩ := bif0_some h
    cases h
    rw [Bool.and_eq_true] at hn
    have hq : q.1 ≠ 1 := fun e1 => by rw [e1] at hn; cases hn.1
    have hq2 : q2.1 ≠ 1 := fun e1 => by rw [e1] at hn; cases hn.2
    exact lv_dup_x1 hx hb hd (cv_cat hEV.2.2.2.2 hq) (cv_cat hEV.2.2.2.2 hq2) (kk.stk hR (okc (okh hSok) (okc (okh (okt hSok)) (okc (okh hSok) (okt (okt hSok))))))
theorem st_dup2 {r : List Int} {pc1 : Nat} {L1 S1 : List AV} {σ1 : Sg} (C : CX p R s m args meth c y d G cA E B0) (he : (pc, (.dup2 : Instr), r) ∈ cod y) (h : stp nS sB (.dup2) r pc L S σ = some (pc1, L1, S1, σ1)) (hnL : nL = mL y) (hR : REL G cA E B0 s.heap nL ad σ H locs ls L S) (kk : KT p l e R s m args below meth c Q G cA E B0 nL cells slots ad σ pc1 L1 S1 σ1) : W p l e R s m args below meth c H locs cells slots Q (F0 m pc ls (S.map (cv E ad))) := by
  obtain ⟨hx, hb, hml, hown, hts, hin, hEV, hB0, hfr, hlo⟩ := C
  have hok := ok_all he
  have hok' := (Bool.and_eq_true _ _).mp hok.2
  have hd : decode (bc y) pc = .ok (.dup2, lenI (.dup2) r) := of_decide_eq_true hok'.1
  have hres : resB (mi y).1 (isIn y) pc (.dup2) r = true := hok'.2
  have hSok := hR.2.2.2.2.2.2
  unfold stp at h
  dsimp only at h
  match S, h, hSok, hR with
  | [], h, _, _ => cases h
  | [_], h, _, _ => cases h
  | q :: q2 :: S2, h, hSok, hR =>
    obtain ⟨hn, h⟩ := bif0_some h
    cases h
    rw [Bool.and_eq_true] at hn
    have hq : q.1 ≠ 1 := fun e1 => by rw [e1] at hn; cases hn.1
    have hq2 : q2.1 ≠ 1 := fun e1 => by rw [e1] at hn; cases hn.2
    exact lv_dup2_11 hx hb hd (cv_cat hEV.2.2.2.2 hq) (cv_cat hEV.2.2.2.2 hq2) (kk.stk hR (okc (okh hSok) (okc (okh (okt hSok)) hSok)))
theorem st_goto {off : Int} {r : List Int} {pc1 : Nat} {L1 S1 : List AV} {σ1 : Sg} (C : CX p R s m args meth c y d G cA E B0) (he : (pc, (.goto off : Instr), r) ∈ cod y) (h : stp nS sB (.goto off) r pc L S σ = some (pc1, L1, S1, σ1)) (hnL : nL = mL y) (hR : REL G cA E B0 s.heap nL ad σ H locs ls L S) (kk : KT p l e R s m args below meth c Q G cA E B0 nL cells slots ad σ pc1 L1 S1 σ1) : W p l e R s m args below meth c H locs cells slots Q (F0 m pc ls (S.map (cv E ad))) := by
  obtain ⟨hx, hb, hml, hown, hts, hin, hEV, hB0, hfr, hlo⟩ := C
  have hok := ok_all he
  have hok' := (Bool.and_eq_true _ _).mp hok.2
  have hd : decode (bc y) pc = .ok (.goto off, lenI (.goto off) r) := of_decide_eq_true hok'.1
  have hres : resB (mi y).1 (isIn y) pc (.goto off) r = true := hok'.2
  have hSok := hR.2.2.2.2.2.2
  unfold stp at h
  dsimp only at h
  have hh := h
  clear h
  match r, hh, hres, he, hd with
  | [], h, _, _, _ => cases h
  | _ :: _ :: _, h, _, _, _ => cases h
  | [t], h, hres, he, hd =>
    have hres' : (decide (0 ≤ t) && t == (pc : Int) + off) = true := hres
    rw [Bool.and_eq_true, decide_eq_true_eq, beq_iff_eq] at hres'
    have ht : (pc : Int) + off = ((t.toNat : Nat) : Int) := by omega
    cases h
    exact lv_goto hx hb hd ht (kk.stk hR hSok)
theorem st_if_eq {off : Int} {r : List Int} {pc1 : Nat} {L1 S1 : List AV} {σ1 : Sg} (C : CX p R s m args meth c y d G cA E B0) (he : (pc, (.ifCond .eq off : Instr), r) ∈ cod y) (h : stp nS sB (.ifCond .eq off) r pc L S σ = some (pc1, L1, S1, σ1)) (hnL : nL = mL y) (hR : REL G cA E B0 s.heap nL ad σ H locs ls L S) (kk : KT p l e R s m args below meth c Q G cA E B0 nL cells slots ad σ pc1 L1 S1 σ1) : W p l e R s m args below meth c H locs cells slots Q (F0 m pc ls (S.map (cv E ad))) := by
  obtain ⟨hx, hb, hml, hown, hts, hin, hEV, hB0, hfr, hlo⟩ := C
  have hok := ok_all he
  have hok' := (Bool.and_eq_true _ _).mp hok.2
  have hd : decode (bc y) pc = .ok (.ifCond .eq off, lenI (.ifCond .eq off) r) := of_decide_eq_true hok'.1
  have hres : resB (mi y).1 (isIn y) pc (.ifCond .eq off) r = true := hok'.2
  have hSok := hR.2.2.2.2.2.2
  unfold stp at h
  dsimp only at h
  have hh := h
  clear h
  match r, hh, hres, he, hd with
  | [], h, _, _, _ => cases h
  | _ :: _ :: _, h, _, _, _ => cases h
  | [t], h, hres, he, hd =>
    have hres' : (decide (0 ≤ t) && t == (pc : Int) + off) = true := hres
    rw [Bool.and_eq_true, decide_eq_true_eq, beq_iff_eq] at hres'
    have ht : (pc : Int) + off = ((t.toNat : Nat) : Int) := by omega
    have h9 := bI_some h
    clear h
    obtain ⟨a, S3, rfl, h⟩ := h9
    cases h
    have ha : -2147483648 ≤ a ∧ a < 2147483648 := okh hSok
    have hz : -2147483648 ≤ (0 : Int) ∧ (0 : Int) < 2147483648 := by omega
    refine lv_if_eq (x := Int32.ofInt a) (tgt := t.toNat) hx hb hd ht (fun q => ?_) (fun q => ?_)
    · have q1 : a = 0 := (eq32 ha hz).mp q
      have e1 : brc .eq a 0 t.toNat (pc + 3) = t.toNat := if_pos q1
      rw [e1] at kk
      exact kk.stk hR (okt hSok)
    · have q1 : ¬ a = 0 := fun z => q ((eq32 ha hz).mpr z)
      have e1 : brc .eq a 0 t.toNat (pc + 3) = pc + 3 := if_neg q1
      rw [e1] at kk
      exact kk.stk hR (okt hSok)
theorem st_if_ne {off : Int} {r : List Int} {pc1 : Nat} {L1 S1 : List AV} {σ1 : Sg} (C : CX p R s m args meth c y d G cA E B0) (he : (pc, (.ifCond .ne off : Instr), r) ∈ cod y) (h : stp nS sB (.ifCond .ne off) r pc L S σ = some (pc1, L1, S1, σ1)) (hnL : nL = mL y) (hR : REL G cA E B0 s.heap nL ad σ H locs ls L S) (kk : KT p l e R s m args below meth c Q G cA E B0 nL cells slots ad σ pc1 L1 S1 σ1) : W p l e R s m args below meth c H locs cells slots Q (F0 m pc ls (S.map (cv E ad))) := by
  obtain ⟨hx, hb, hml, hown, hts, hin, hEV, hB0, hfr, hlo⟩ := C
  have hok := ok_all he
  have hok' := (Bool.and_eq_true _ _).mp hok.2
  have hd : decode (bc y) pc = .ok (.ifCond .ne off, lenI (.ifCond .ne off) r) := of_decide_eq_true hok'.1
  have hres : resB (mi y).1 (isIn y) pc (.ifCond .ne off) r = true := hok'.2
  have hSok := hR.2.2.2.2.2.2
  unfold stp at h
  dsimp only at h
  have hh := h
  clear h
  match r, hh, hres, he, hd with
  | [], h, _, _, _ => cases h
  | _ :: _ :: _, h, _, _, _ => cases h
  | [t], h, hres, he, hd =>
    have hres' : (decide (0 ≤ t) && t == (pc : Int) + off) = true := hres
    rw [Bool.and_eq_true, decide_eq_true_eq, beq_iff_eq] at hres'
    have ht : (pc : Int) + off = ((t.toNat : Nat) : Int) := by omega
    have h9 := bI_some h
    clear h
    obtain ⟨a, S3, rfl, h⟩ := h9
    cases h
    have ha : -2147483648 ≤ a ∧ a < 2147483648 := okh hSok
    have hz : -2147483648 ≤ (0 : Int) ∧ (0 : Int) < 2147483648 := by omega
    refine lv_if_ne (x := Int32.ofInt a) (tgt := t.toNat) hx hb hd ht (fun q => ?_) (fun q => ?_)
    · have q1 : ¬ a = 0 := fun z => q ((eq32 ha hz).mpr z)
      have e1 : brc .ne a 0 t.toNat (pc + 3) = t.toNat := if_neg q1
      rw [e1] at kk
      exact kk.stk hR (okt hSok)
    · have q1 : a = 0 := (eq32 ha hz).mp q
      have e1 : brc .ne a 0 t.toNat (pc + 3) = pc + 3 := if_pos q1
      rw [e1] at kk
      exact kk.stk hR (okt hSok)
theorem st_if_lt {off : Int} {r : List Int} {pc1 : Nat} {L1 S1 : List AV} {σ1 : Sg} (C : CX p R s m args meth c y d G cA E B0) (he : (pc, (.ifCond .lt off : Instr), r) ∈ cod y) (h : stp nS sB (.ifCond .lt off) r pc L S σ = some (pc1, L1, S1, σ1)) (hnL : nL = mL y) (hR : REL G cA E B0 s.heap nL ad σ H locs ls L S) (kk : KT p l e R s m args below meth c Q G cA E B0 nL cells slots ad σ pc1 L1 S1 σ1) : W p l e R s m args below meth c H locs cells slots Q (F0 m pc ls (S.map (cv E ad))) := by
  obtain ⟨hx, hb, hml, hown, hts, hin, hEV, hB0, hfr, hlo⟩ := C
  have hok := ok_all he
  have hok' := (Bool.and_eq_true _ _).mp hok.2
  have hd : decode (bc y) pc = .ok (.ifCond .lt off, lenI (.ifCond .lt off) r) := of_decide_eq_true hok'.1
  have hres : resB (mi y).1 (isIn y) pc (.ifCond .lt off) r = true := hok'.2
  have hSok := hR.2.2.2.2.2.2
  unfold stp at h
  dsimp only at h
  have hh := h
  clear h
  match r, hh, hres, he, hd with
  | [], h, _, _, _ => cases h
  | _ :: _ :: _, h, _, _, _ => cases h
  | [t], h, hres, he, hd =>
    have hres' : (decide (0 ≤ t) && t == (pc : Int) + off) = true := hres
    rw [Bool.and_eq_true, decide_eq_true_eq, beq_iff_eq] at hres'
    have ht : (pc : Int) + off = ((t.toNat : Nat) : Int) := by omega
    have h9 := bI_some h
    clear h
    obtain ⟨a, S3, rfl, h⟩ := h9
    cases h
    have ha : -2147483648 ≤ a ∧ a < 2147483648 := okh hSok
    have hz : -2147483648 ≤ (0 : Int) ∧ (0 : Int) < 2147483648 := by omega
    refine lv_if_lt (x := Int32.ofInt a) (tgt := t.toNat) hx hb hd ht (fun q => ?_) (fun q => ?_)
    · have q1 : a < 0 := (lt32 ha hz).mp q
      have e1 : brc .lt a 0 t.toNat (pc + 3) = t.toNat := if_pos q1
      rw [e1] at kk
      exact kk.stk hR (okt hSok)
    · have q1 : ¬ a < 0 := fun z => q ((lt32 ha hz).mpr z)
      have e1 : brc .lt a 0 t.toNat (pc + 3) = pc + 3 := if_neg q1
      rw [e1] at kk
      exact kk.stk hR (okt hSok)
theorem st_if_ge {off : Int} {r : List Int} {pc1 : Nat} {L1 S1 : List AV} {σ1 : Sg} (C : CX p R s m args meth c y d G cA E B0) (he : (pc, (.ifCond .ge off : Instr), r) ∈ cod y) (h : stp nS sB (.ifCond .ge off) r pc L S σ = some (pc1, L1, S1, σ1)) (hnL : nL = mL y) (hR : REL G cA E B0 s.heap nL ad σ H locs ls L S) (kk : KT p l e R s m args below meth c Q G cA E B0 nL cells slots ad σ pc1 L1 S1 σ1) : W p l e R s m args below meth c H locs cells slots Q (F0 m pc ls (S.map (cv E ad))) := by
  obtain ⟨hx, hb, hml, hown, hts, hin, hEV, hB0, hfr, hlo⟩ := C
  have hok := ok_all he
  have hok' := (Bool.and_eq_true _ _).mp hok.2
  have hd : decode (bc y) pc = .ok (.ifCond .ge off, lenI (.ifCond .ge off) r) := of_decide_eq_true hok'.1
  have hres : resB (mi y).1 (isIn y) pc (.ifCond .ge off) r = true := hok'.2
  have hSok := hR.2.2.2.2.2.2
  unfold stp at h
  dsimp only at h
  have hh := h
  clear h
  match r, hh, hres, he, hd with
  | [], h, _, _, _ => cases h
  | _ :: _ :: _, h, _, _, _ => cases h
  | [t], h, hres, he, hd =>
    have hres' : (decide (0 ≤ t) && t == (pc : Int) + off) = true := hres
    rw [Bool.and_eq_true, decide_eq_true_eq, beq_iff_eq] at hres'
    have ht : (pc : Int) + off = ((t.toNat : Nat) : Int) := by omega
    have h9 := bI_some h
    clear h
    obtain ⟨a, S3, rfl, h⟩ := h9
    cases h
    have ha : -2147483648 ≤ a ∧ a < 2147483648 := okh hSok
    have hz : -2147483648 ≤ (0 : Int) ∧ (0 : Int) < 2147483648 := by omega
    refine lv_if_ge (x := Int32.ofInt a) (tgt := t.toNat) hx hb hd ht (fun q => ?_) (fun q => ?_)
    · have q1 : ¬ a < 0 := by have := (le32 hz ha).mp q; omega
      have e1 : brc .ge a 0 t.toNat (pc + 3) = t.toNat := if_neg q1
      rw [e1] at kk
      exact kk.stk hR (okt hSok)
    · have q1 : a < 0 := Int.not_le.mp (fun z => q ((le32 hz ha).mpr z))
      have e1 : brc .ge a 0 t.toNat (pc + 3) = pc + 3 := if_pos q1
      rw [e1] at kk
      exact kk.stk hR (okt hSok)
theorem st_if_gt {off : Int} {r : List Int} {pc1 : Nat} {L1 S1 : List AV} {σ1 : Sg} (C : CX p R s m args meth c y d G cA E B0) (he : (pc, (.ifCond .gt off : Instr), r) ∈ cod y) (h : stp nS sB (.ifCond .gt off) r pc L S σ = some (pc1, L1, S1, σ1)) (hnL : nL = mL y) (hR : REL G cA E B0 s.heap nL ad σ H locs ls L S) (kk : KT p l e R s m args below meth c Q G cA E B0 nL cells slots ad σ pc1 L1 S1 σ1) : W p l e R s m args below meth c H locs cells slots Q (F0 m pc ls (S.map (cv E ad))) := by
  obtain ⟨hx, hb, hml, hown, hts, hin, hEV, hB0, hfr, hlo⟩ := C
  have hok := ok_all he
  have hok' := (Bool.and_eq_true _ _).mp hok.2
  have hd : decode (bc y) pc = .ok (.ifCond .gt off, lenI (.ifCond .gt off) r) := of_decide_eq_true hok'.1
  have hres : resB (mi y).1 (isIn y) pc (.ifCond .gt off) r = true := hok'.2
  have hSok := hR.2.2.2.2.2.2
  unfold stp at h
  dsimp only at h
  have hh := h
  clear h
  match r, hh, hres, he, hd with
  | [], h, _, _, _ => cases h
  | _ :: _ :: _, h, _, _, _ => cases h
  | [t], h, hres, he, hd =>
    have hres' : (decide (0 ≤ t) && t == (pc : Int) + off) = true := hres
    rw [Bool.and_eq_true, decide_eq_true_eq, beq_iff_eq] at hres'
    have ht : (pc : Int) + off = ((t.toNat : Nat) : Int) := by omega
    have h9 := bI_some h
    clear h
    obtain ⟨a, S3, rfl, h⟩ := h9
    cases h
    have ha : -2147483648 ≤ a ∧ a < 2147483648 := okh hSok
    have hz : -2147483648 ≤ (0 : Int) ∧ (0 : Int) < 2147483648 := by omega
    refine lv_if_gt (x := Int32.ofInt a) (tgt := t.toNat) hx hb hd ht (fun q => ?_) (fun q => ?_)
    · have q1 : 0 < a := (lt32 hz ha).mp q
      have e1 : brc .gt a 0 t.toNat (pc + 3) = t.toNat := if_pos q1
      rw [e1] at kk
      exact kk.stk hR (okt hSok)
    · have q1 : ¬ 0 < a := fun z => q ((lt32 hz ha).mpr z)
      have e1 : brc .gt a 0 t.toNat (pc + 3) = pc + 3 := if_neg q1
      rw [e1] at kk
      exact kk.stk hR (okt hSok)
theorem st_if_le {off : Int} {r : List Int} {pc1 : Nat} {L1 S1 : List AV} {σ1 : Sg} (C : CX p R s m args meth c y d G cA E B0) (he : (pc, (.ifCond .le off : Instr), r) ∈ cod y) (h : stp nS sB (.ifCond .le off) r pc L S σ = some (pc1, L1, S1, σ1)) (hnL : nL = mL y) (hR : REL G cA E B0 s.heap nL ad σ H locs ls L S) (kk : KT p l e R s m args below meth c Q G cA E B0 nL cells slots ad σ pc1 L1 S1 σ1) : W p l e R s m args below meth c H locs cells slots Q (F0 m pc ls (S.map (cv E ad))) := by
  obtain ⟨hx, hb, hml, hown, hts, hin, hEV, hB0, hfr, hlo⟩ := C
  have hok := ok_all he
  have hok' := (Bool.and_eq_true _ _).mp hok.2
  have hd : decode (bc y) pc = .ok (.ifCond .le off, lenI (.ifCond .le off) r) := of_decide_eq_true hok'.1
  have hres : resB (mi y).1 (isIn y) pc (.ifCond .le off) r = true := hok'.2
  have hSok := hR.2.2.2.2.2.2
  unfold stp at h
  dsimp only at h
  have hh := h
  clear h
  match r, hh, hres, he, hd with
  | [], h, _, _, _ => cases h
  | _ :: _ :: _, h, _, _, _ => cases h
  | [t], h, hres, he, hd =>
    have hres' : (decide (0 ≤ t) && t == (pc : Int) + off) = true := hres
    rw [Bool.and_eq_true, decide_eq_true_eq, beq_iff_eq] at hres'
    have ht : (pc : Int) + off = ((t.toNat : Nat) : Int) := by omega
    have h9 := bI_some h
    clear h
    obtain ⟨a, S3, rfl, h⟩ := h9
    cases h
    have ha : -2147483648 ≤ a ∧ a < 2147483648 := okh hSok
    have hz : -2147483648 ≤ (0 : Int) ∧ (0 : Int) < 2147483648 := by omega
    refine lv_if_le (x := Int32.ofInt a) (tgt := t.toNat) hx hb hd ht (fun q => ?_) (fun q => ?_)
    · have q1 : ¬ 0 < a := by have := (le32 ha hz).mp q; omega
      have e1 : brc .le a 0 t.toNat (pc + 3) = t.toNat := if_neg q1
      rw [e1] at kk
      exact kk.stk hR (okt hSok)
    · have q1 : 0 < a := Int.not_le.mp (fun z => q ((le32 ha hz).mpr z))
      have e1 : brc .le a 0 t.toNat (pc + 3) = pc + 3 := if_pos q1
      rw [e1] at kk
      exact kk.stk hR (okt hSok)
theorem st_icmp_eq {off : Int} {r : List Int} {pc1 : Nat} {L1 S1 : List AV} {σ1 : Sg} (C : CX p R s m args meth c y d G cA E B0) (he : (pc, (.if_icmp .eq off : Instr), r) ∈ cod y) (h : stp nS sB (.if_icmp .eq off) r pc L S σ = some (pc1, L1, S1, σ1)) (hnL : nL = mL y) (hR : REL G cA E B0 s.heap nL ad σ H locs ls L S) (kk : KT p l e R s m args below meth c Q G cA E B0 nL cells slots ad σ pc1 L1 S1 σ1) : W p l e R s m args below meth c H locs cells slots Q (F0 m pc ls (S.map (cv E ad))) := by
  obtain ⟨hx, hb, hml, hown, hts, hin, hEV, hB0, hfr, hlo⟩ := C
  have hok := ok_all he
  have hok' := (Bool.and_eq_true _ _).mp hok.2
  have hd : decode (bc y) pc = .ok (.if_icmp .eq off, lenI (.if_icmp .eq off) r) := of_decide_eq_true hok'.1
  have hres : resB (mi y).1 (isIn y) pc (.if_icmp .eq off) r = true := hok'.2
  have hSok := hR.2.2.2.2.2.2
  unfold stp at h
  dsimp only at h
  have hh := h
  clear h
  match r, hh, hres, he, hd with
  | [], h, _, _, _ => cases h
  | _ :: _ :: _, h, _, _, _ => cases h
  | [t], h, hres, he, hd =>
    have hres' : (decide (0 ≤ t) && t == (pc : Int) + off) = true := hres
    rw [Bool.and_eq_true, decide_eq_true_eq, beq_iff_eq] at hres'
    have ht : (pc : Int) + off = ((t.toNat : Nat) : Int) := by omega
    have h9 := bI_some h
    clear h
    obtain ⟨b, S2, rfl, h⟩ := h9
    have h9 := bI_some h
    clear h
    obtain ⟨a, S3, rfl, h⟩ := h9
    cases h
    have ha : -2147483648 ≤ a ∧ a < 2147483648 := okh (okt hSok)
    have hz : -2147483648 ≤ b ∧ b < 2147483648 := okh hSok
    refine lv_icmp_eq (x := Int32.ofInt a) (y := Int32.ofInt b) (tgt := t.toNat) hx hb hd ht (fun q => ?_) (fun q => ?_)
    · have q1 : a = b := (eq32 ha hz).mp q
      have e1 : brc .eq a b t.toNat (pc + 3) = t.toNat := if_pos q1
      rw [e1] at kk
      exact kk.stk hR (okt (okt hSok))
    · have q1 : ¬ a = b := fun z => q ((eq32 ha hz).mpr z)
      have e1 : brc .eq a b t.toNat (pc + 3) = pc + 3 := if_neg q1
      rw [e1] at kk
      exact kk.stk hR (okt (okt hSok))
theorem st_icmp_ne {off : Int} {r : List Int} {pc1 : Nat} {L1 S1 : List AV} {σ1 : Sg} (C : CX p R s m args meth c y d G cA E B0) (he : (pc, (.if_icmp .ne off : Instr), r) ∈ cod y) (h : stp nS sB (.if_icmp .ne off) r pc L S σ = some (pc1, L1, S1, σ1)) (hnL : nL = mL y) (hR : REL G cA E B0 s.heap nL ad σ H locs ls L S) (kk : KT p l e R s m args below meth c Q G cA E B0 nL cells slots ad σ pc1 L1 S1 σ1) : W p l e R s m args below meth c H locs cells slots Q (F0 m pc ls (S.map (cv E ad))) := by
  obtain ⟨hx, hb, hml, hown, hts, hin, hEV, hB0, hfr, hlo⟩ := C
  have hok := ok_all he
  have hok' := (Bool.and_eq_true _ _).mp hok.2
  have hd : decode (bc y) pc = .ok (.if_icmp .ne off, lenI (.if_icmp .ne off) r) := of_decide_eq_true hok'.1
  have hres : resB (mi y).1 (isIn y) pc (.if_icmp .ne off) r = true := hok'.2
  have hSok := hR.2.2.2.2.2.2
  unfold stp at h
  dsimp only at h
  have hh := h
  clear h
  match r, hh, hres, he, hd with
  | [], h, _, _, _ => cases h
  | _ :: _ :: _, h, _, _, _ => cases h
  | [t], h, hres, he, hd =>
    have hres' : (decide (0 ≤ t) && t == (pc : Int) + off) = true := hres
    rw [Bool.and_eq_true, decide_eq_true_eq, beq_iff_eq] at hres'
    have ht : (pc : Int) + off = ((t.toNat : Nat) : Int) := by omega
    have h9 := bI_some h
    clear h
    obtain ⟨b, S2, rfl, h⟩ := h9
    have h9 := bI_some h
    clear h
    obtain ⟨a, S3, rfl, h⟩ := h9
    cases h
    have ha : -2147483648 ≤ a ∧ a < 2147483648 := okh (okt hSok)
    have hz : -2147483648 ≤ b ∧ b < 2147483648 := okh hSok
    refine lv_icmp_ne (x := Int32.ofInt a) (y := Int32.ofInt b) (tgt := t.toNat) hx hb hd ht (fun q => ?_) (fun q => ?_)
    · have q1 : ¬ a = b := fun z => q ((eq32 ha hz).mpr z)
      have e1 : brc .ne a b t.toNat (pc + 3) = t.toNat := if_neg q1
      rw [e1] at kk
      exact kk.stk hR (okt (okt hSok))
    · have q1 : a = b := (eq32 ha hz).mp q
      have e1 : brc .ne a b t.toNat (pc + 3) = pc + 3 := if_pos q1
      rw [e1] at kk
      exact kk.stk hR (okt (okt hSok))
theorem st_icmp_lt {off : Int} {r : List Int} {pc1 : Nat} {L1 S1 : List AV} {σ1 : Sg} (C : CX p R s m args meth c y d G cA E B0) (he : (pc, (.if_icmp .lt off : Instr), r) ∈ cod y) (h : stp nS sB (.if_icmp .lt off) r pc L S σ = some (pc1, L1, S1, σ1)) (hnL : nL = mL y) (hR : REL G cA E B0 s.heap nL ad σ H locs ls L S) (kk : KT p l e R s m args below meth c Q G cA E B0 nL cells slots ad σ pc1 L1 S1 σ1) : W p l e R s m args below meth c H locs cells slots Q (F0 m pc ls (S.map (cv E ad))) := by
  obtain ⟨hx, hb, hml, hown, hts, hin, hEV, hB0, hfr, hlo⟩ := C
  have hok := ok_all he
  have hok' := (Bool.and_eq_true _ _).mp hok.2
  have hd : decode (bc y) pc = .ok (.if_icmp .lt off, lenI (.if_icmp .lt off) r) := of_decide_eq_true hok'.1
  have hres : resB (mi y).1 (isIn y) pc (.if_icmp .lt off) r = true := hok'.2
  have hSok := hR.2.2.2.2.2.2
  unfold stp at h
  dsimp only at h
  have hh := h
  clear h
  match r, hh, hres, he, hd with
  | [], h, _, _, _ => cases h
  | _ :: _ :: _, h, _, _, _ => cases h
  | [t], h, hres, he, hd =>
    have hres' : (decide (0 ≤ t) && t == (pc : Int) + off) = true := hres
    rw [Bool.and_eq_true, decide_eq_true_eq, beq_iff_eq] at hres'
    have ht : (pc : Int) + off = ((t.toNat : Nat) : Int) := by omega
    have h9 := bI_some h
    clear h
    obtain ⟨b, S2, rfl, h⟩ := h9
    have h9 := bI_some h
    clear h
    obtain ⟨a, S3, rfl, h⟩ := h9
    cases h
    have ha : -2147483648 ≤ a ∧ a < 2147483648 := okh (okt hSok)
    have hz : -2147483648 ≤ b ∧ b < 2147483648 := okh hSok
    refine lv_icmp_lt (x := Int32.ofInt a) (y := Int32.ofInt b) (tgt := t.toNat) hx hb hd ht (fun q => ?_) (fun q => ?_)
    · have q1 : a < b := (lt32 ha hz).mp q
      have e1 : brc .lt a b t.toNat (pc + 3) = t.toNat := if_pos q1
      rw [e1] at kk
      exact kk.stk hR (okt (okt hSok))
    · have q1 : ¬ a < b := fun z => q ((lt32 ha hz).mpr z)
      have e1 : brc .lt a b t.toNat (pc + 3) = pc + 3 := if_neg q1
      rw [e1] at kk
      exact kk.stk hR (okt (okt hSok))
theorem st_icmp_ge {off : Int} {r : List Int} {pc1 : Nat} {L1 S1 : List AV} {σ1 : Sg} (C : CX p R s m args meth c y d G cA E B0) (he : (pc, (.if_icmp .ge off : Instr), r) ∈ cod y) (h : stp nS sB (.if_icmp .ge off) r pc L S σ = some (pc1, L1, S1, σ1)) (hnL : nL = mL y) (hR : REL G cA E B0 s.heap nL ad σ H locs ls L S) (kk : KT p l e R s m args below meth c Q G cA E B0 nL cells slots ad σ pc1 L1 S1 σ1) : W p l e R s m args below meth c H locs cells slots Q (F0 m pc ls (S.map (cv E ad))) := by
  obtain ⟨hx, hb, hml, hown, hts, hin, hEV, hB0, hfr, hlo⟩ := C
  have hok := ok_all he
  have hok' := (Bool.and_eq_true _ _).mp hok.2
  have hd : decode (bc y) pc = .ok (.if_icmp .ge off, lenI (.if_icmp .ge off) r) := of_decide_eq_true hok'.1
  have hres : resB (mi y).1 (isIn y) pc (.if_icmp .ge off) r = true := hok'.2
  have hSok := hR.2.2.2.2.2.2
  unfold stp at h
  dsimp only at h
  have hh := h
  clear h
  match r, hh, hres, he, hd with
  | [], h, _, _, _ => cases h
  | _ :: _ :: _, h, _, _, _ => cases h
  | [t], h, hres, he, hd =>
    have hres' : (decide (0 ≤ t) && t == (pc : Int) + off) = true := hres
    rw [Bool.and_eq_true, decide_eq_true_eq, beq_iff_eq] at hres'
    have ht : (pc : Int) + off = ((t.toNat : Nat) : Int) := by omega
    have h9 := bI_some h
    clear h
    obtain ⟨b, S2, rfl, h⟩ := h9
    have h9 := bI_some h
    clear h
    obtain ⟨a, S3, rfl, h⟩ := h9
    cases h
    have ha : -2147483648 ≤ a ∧ a < 2147483648 := okh (okt hSok)
    have hz : -2147483648 ≤ b ∧ b < 2147483648 := okh hSok
    refine lv_icmp_ge (x := Int32.ofInt a) (y := Int32.ofInt b) (tgt := t.toNat) hx hb hd ht (fun q => ?_) (fun q => ?_)
    · have q1 : ¬ a < b := by have := (le32 hz ha).mp q; omega
      have e1 : brc .ge a b t.toNat (pc + 3) = t.toNat := if_neg q1
      rw [e1] at kk
      exact kk.stk hR (okt (okt hSok))
    · have q1 : a < b := Int.not_le.mp (fun z => q ((le32 hz ha).mpr z))
      have e1 : brc .ge a b t.toNat (pc + 3) = pc + 3 := if_pos q1
      rw [e1] at kk
      exact kk.stk hR (okt (okt hSok))
theorem st_icmp_gt {off : Int} {r : List Int} {pc1 : Nat} {L1 S1 : List AV} {σ1 : Sg} (C : CX p R s m args meth c y d G cA E B0) (he : (pc, (.if_icmp .gt off : Instr), r) ∈ cod y) (h : stp nS sB (.if_icmp .gt off) r pc L S σ = some (pc1, L1, S1, σ1)) (hnL : nL = mL y) (hR : REL G cA E B0 s.heap nL ad σ H locs ls L S) (kk : KT p l e R s m args below meth c Q G cA E B0 nL cells slots ad σ pc1 L1 S1 σ1) : W p l e R s m args below meth c H locs cells slots Q (F0 m pc ls (S.map (cv E ad))) := by
  obtain ⟨hx, hb, hml, hown, hts, hin, hEV, hB0, hfr, hlo⟩ := C
  have hok := ok_all he
  have hok' := (Bool.and_eq_true _ _).mp hok.2
  have hd : decode (bc y) pc = .ok (.if_icmp .gt off, lenI (.if_icmp .gt off) r) := of_decide_eq_true hok'.1
  have hres : resB (mi y).1 (isIn y) pc (.if_icmp .gt off) r = true := hok'.2
  have hSok := hR.2.2.2.2.2.2
  unfold stp at h
  dsimp only at h
  have hh := h
  clear h
  match r, hh, hres, he, hd with
  | [], h, _, _, _ => cases h
  | _ :: _ :: _, h, _, _, _ => cases h
  | [t], h, hres, he, hd =>
    have hres' : (decide (0 ≤ t) && t == (pc : Int) + off) = true := hres
    rw [Bool.and_eq_true, decide_eq_true_eq, beq_iff_eq] at hres'
    have ht : (pc : Int) + off = ((t.toNat : Nat) : Int) := by omega
    have h9 := bI_some h
    clear h
    obtain ⟨b, S2, rfl, h⟩ := h9
    have h9 := bI_some h
    clear h
    obtain ⟨a, S3, rfl, h⟩ := h9
    cases h
    have ha : -2147483648 ≤ a ∧ a < 2147483648 := okh (okt hSok)
    have hz : -2147483648 ≤ b ∧ b < 2147483648 := okh hSok
    refine lv_icmp_gt (x := Int32.ofInt a) (y := Int32.ofInt b) (tgt := t.toNat) hx hb hd ht (fun q => ?_) (fun q => ?_)
    · have q1 : b < a := (lt32 hz ha).mp q
      have e1 : brc .gt a b t.toNat (pc + 3) = t.toNat := if_pos q1
      rw [e1] at kk
      exact kk.stk hR (okt (okt hSok))
    · have q1 : ¬ b < a := fun z => q ((lt32 hz ha).mpr z)
      have e1 : brc .gt a b t.toNat (pc + 3) = pc + 3 := if_neg q1
      rw [e1] at kk
      exact kk.stk hR (okt (okt hSok))
theorem st_icmp_le {off : Int} {r : List Int} {pc1 : Nat} {L1 S1 : List AV} {σ1 : Sg} (C : CX p R s m args meth c y d G cA E B0) (he : (pc, (.if_icmp .le off : Instr), r) ∈ cod y) (h : stp nS sB (.if_icmp .le off) r pc L S σ = some (pc1, L1, S1, σ1)) (hnL : nL = mL y) (hR : REL G cA E B0 s.heap nL ad σ H locs ls L S) (kk : KT p l e R s m args below meth c Q G cA E B0 nL cells slots ad σ pc1 L1 S1 σ1) : W p l e R s m args below meth c H locs cells slots Q (F0 m pc ls (S.map (cv E ad))) := by
  obtain ⟨hx, hb, hml, hown, hts, hin, hEV, hB0, hfr, hlo⟩ := C
  have hok := ok_all he
  have hok' := (Bool.and_eq_true _ _).mp hok.2
  have hd : decode (bc y) pc = .ok (.if_icmp .le off, lenI (.if_icmp .le off) r) := of_decide_eq_true hok'.1
  have hres : resB (mi y).1 (isIn y) pc (.if_icmp .le off) r = true := hok'.2
  have hSok := hR.2.2.2.2.2.2
  unfold stp at h
  dsimp only at h
  have hh := h
  clear h
  match r, hh, hres, he, hd with
  | [], h, _, _, _ => cases h
  | _ :: _ :: _, h, _, _, _ => cases h
  | [t], h, hres, he, hd =>
    have hres' : (decide (0 ≤ t) && t == (pc : Int) + off) = true := hres
    rw [Bool.and_eq_true, decide_eq_true_eq, beq_iff_eq] at hres'
    have ht : (pc : Int) + off = ((t.toNat : Nat) : Int) := by omega
    have h9 := bI_some h
    clear h
    obtain ⟨b, S2, rfl, h⟩ := h9
    have h9 := bI_some h
    clear h
    obtain ⟨a, S3, rfl, h⟩ := h9
    cases h
    have ha : -2147483648 ≤ a ∧ a < 2147483648 := okh (okt hSok)
    have hz : -2147483648 ≤ b ∧ b < 2147483648 := okh hSok
    refine lv_icmp_le (x := Int32.ofInt a) (y := Int32.ofInt b) (tgt := t.toNat) hx hb hd ht (fun q => ?_) (fun q => ?_)
    · have q1 : ¬ b < a := by have := (le32 ha hz).mp q; omega
      have e1 : brc .le a b t.toNat (pc + 3) = t.toNat := if_neg q1
      rw [e1] at kk
      exact kk.stk hR (okt (okt hSok))
    · have q1 : b < a := Int.not_le.mp (fun z => q ((le32 ha hz).mpr z))
      have e1 : brc .le a b t.toNat (pc + 3) = pc + 3 := if_pos q1
      rw [e1] at kk
      exact kk.stk hR (okt (okt hSok))
end STP
