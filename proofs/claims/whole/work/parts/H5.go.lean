/-! From the small machine to the machine: to a stop, nothing changed; to a return, as LL tells. -/
theorem go_of {l : Launch} {p : Program} {e : Env} {R : Room} {s : State} {m : MethodId} {args : Array Value} {below : List Frame} {meth : Method} {c : Code} {H : Heap} {locs : List Loc} {cells slots : Nat} {Q : State → Prop} {G : va_G} {cA : Nat → ClassId} {E : EE} {B0 : Nat → Prop} {ad : Nat → Nat} {ls : Array Slot} {t : Int} {d y pc pc1 : Nat} {L S L1 S1 : List AV} {v : Mem} (h : XH t d y pc L S v pc1 L1 S1) (C : CX p R s m args meth c y d G cA E B0) (hR : REL G cA E B0 s.heap (mL y) ad (sg t v) H locs ls L S) (hc : cells ≤ R.cells) (hs : slots ≤ R.slots)
    (k : ∀ (ad1 : Nat → Nat) (H1 : Heap) (locs1 : List Loc) (ls1 : Array Slot), (∀ c, c < 82 → ad1 c = ad c) → REL G cA E B0 s.heap (mL y) ad1 (sg t v) H1 locs1 ls1 L1 S1 → W p l e R s m args below meth c H1 locs1 cells slots Q (F0 m pc1 ls1 (S1.map (cv E ad1)))) : W p l e R s m args below meth c H locs cells slots Q (F0 m pc ls (S.map (cv E ad))) := by
  obtain ⟨f, hf⟩ := x_some.mp h
  refine snd_all l f d y pc L S (sg t v) pc1 L1 S1 (sg t v) hf p e R s m args below meth c H locs cells slots Q G cA E B0 ad ls C hR (by rw [Nat.sub_self]; exact hc) (by rw [Nat.sub_self]; exact hs) (fun ad1 H1 locs1 ls1 hext hR1 => ?_)
  rw [Nat.sub_self, Nat.sub_self]
  exact k ad1 H1 locs1 ls1 hext hR1
/-- to the return -/
theorem go_ll {l : Launch} {p : Program} {e : Env} {R : Room} {s : State} {m : MethodId} {args : Array Value} {below : List Frame} {meth : Method} {c : Code} {H : Heap} {locs : List Loc} {cells slots : Nat} {Q : State → Prop} {G : va_G} {cA : Nat → ClassId} {E : EE} {B0 : Nat → Prop} {ad : Nat → Nat} {ls : Array Slot} {t : Int} {d y pc : Nat} {L S : List AV} {v : Mem} {P : Int → Mem → Prop} (h : LL t d y pc L S v P) (C : CX p R s m args meth c y d G cA E B0) (hR : REL G cA E B0 s.heap (mL y) ad (sg t v) H locs ls L S) (hc : cells ≤ R.cells) (hs : slots ≤ R.slots)
    (k : ∀ (x : Int) (v' : Mem) (pc1 : Nat) (L1 S1 : List AV) (ad1 : Nat → Nat) (H1 : Heap) (locs1 : List Loc) (ls1 : Array Slot), P x v' → retV y pc1 S1 = some (rvOf y x) → (∀ c, c < 82 → ad1 c = ad c) → REL G cA E B0 s.heap (mL y) ad1 (sg t v') H1 locs1 ls1 L1 S1 → W p l e R s m args below meth c H1 locs1 cells slots Q (F0 m pc1 ls1 (S1.map (cv E ad1)))) : W p l e R s m args below meth c H locs cells slots Q (F0 m pc ls (S.map (cv E ad))) := by
  obtain ⟨x, v', h1, h2⟩ := h
  unfold xR at h1
  cases hx : xr d y pc L S (sg t v) with
  | none => rw [hx] at h1; cases h1
  | some q =>
    obtain ⟨pc1, L1, S1, σ1⟩ := q
    rw [hx] at h1
    have h1 : (retV y pc1 S1).map (fun rv => (rv, σ1)) = some (rvOf y x, sg t v') := h1
    cases hr : retV y pc1 S1 with
    | none => rw [hr] at h1; cases h1
    | some rv =>
      rw [hr] at h1
      have h1 : some (rv, σ1) = some (rvOf y x, sg t v') := h1
      injection h1 with h1
      injection h1 with e1 e2
      subst e2
      obtain ⟨f, hf⟩ := x_some.mp hx
      refine snd_all l f d y pc L S (sg t v) pc1 L1 S1 (sg t v') hf p e R s m args below meth c H locs cells slots Q G cA E B0 ad ls C hR (by show cells + (82 - 82) ≤ _; rw [Nat.sub_self]; exact hc) (by show slots + (nSl - nSl) ≤ _; rw [Nat.sub_self]; exact hs) (fun ad1 H1 locs1 ls1 hext hR1 => ?_)
      show W p l e R s m args below meth c H1 locs1 (cells + (82 - 82)) (slots + (nSl - nSl)) Q _
      rw [Nat.sub_self, Nat.sub_self]
      exact k x v' pc1 L1 S1 ad1 H1 locs1 ls1 h2 (by rw [hr, e1]) hext hR1
