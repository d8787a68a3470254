/-! Weakest preconditions of the stretches of each method: printed by a program of mine (wip/whole/gen/mkparts.py). -/
set_option maxRecDepth 100000 in
theorem w_274 {t : Int} {d : Nat} {a0 : Int} {v : Mem} {Q : Int → Mem → Prop} (h : (((lcm3 a0 0) < 0 → Q (w64 (-a0)) v) ∧ (¬ (lcm3 a0 0) < 0 → Q a0 v))) : RR t d 274 [(1, a0)] v Q := wp_sound (K := k_274) (cut := []) (f := 12) (cb := false) rfl h
def f_274 (a0 : Int) (v : Mem) : Int := if (lcm3 a0 0) < 0 then (w64 (-a0)) else a0
set_option maxRecDepth 100000 in
theorem p_274 {t : Int} {d : Nat} {a0 : Int} {v : Mem} {Q : Int → Mem → Prop} (h : Q (f_274 a0 v) v) : RR t d 274 [(1, a0)] v Q := w_274 ⟨fun c0 => (by unfold f_274 at h; rw [if_pos c0] at h; exact h), fun c0 => (by unfold f_274 at h; rw [if_neg c0] at h; exact h)⟩
set_option maxRecDepth 100000 in
theorem w_276 {t : Int} {d : Nat} {a0 a1 : Int} {v : Mem} {Q : Int → Mem → Prop} (h : ((a1 < a0 → Q a1 v) ∧ (¬ a1 < a0 → Q a0 v))) : RR t d 276 [(0, a0), (0, a1)] v Q := wp_sound (K := k_276) (cut := []) (f := 10) (cb := false) rfl h
def f_276 (a0 : Int) (a1 : Int) (v : Mem) : Int := if a1 < a0 then a1 else a0
set_option maxRecDepth 100000 in
theorem p_276 {t : Int} {d : Nat} {a0 a1 : Int} {v : Mem} {Q : Int → Mem → Prop} (h : Q (f_276 a0 a1 v) v) : RR t d 276 [(0, a0), (0, a1)] v Q := w_276 ⟨fun c0 => (by unfold f_276 at h; rw [if_pos c0] at h; exact h), fun c0 => (by unfold f_276 at h; rw [if_neg c0] at h; exact h)⟩
set_option maxRecDepth 100000 in
theorem w_275 {t : Int} {d : Nat} {a0 a1 : Int} {v : Mem} {Q : Int → Mem → Prop} (h : ((a0 < a1 → Q a1 v) ∧ (¬ a0 < a1 → Q a0 v))) : RR t d 275 [(0, a0), (0, a1)] v Q := wp_sound (K := k_275) (cut := []) (f := 10) (cb := false) rfl h
def f_275 (a0 : Int) (a1 : Int) (v : Mem) : Int := if a0 < a1 then a1 else a0
set_option maxRecDepth 100000 in
theorem p_275 {t : Int} {d : Nat} {a0 a1 : Int} {v : Mem} {Q : Int → Mem → Prop} (h : Q (f_275 a0 a1 v) v) : RR t d 275 [(0, a0), (0, a1)] v Q := w_275 ⟨fun c0 => (by unfold f_275 at h; rw [if_pos c0] at h; exact h), fun c0 => (by unfold f_275 at h; rw [if_neg c0] at h; exact h)⟩
set_option maxRecDepth 100000 in
theorem w_273_s88 {t : Int} {d : Nat} {a0 a1 : Int} {v : Mem} {Q : Int → Mem → Prop} (h : ((a0 < 0 → False) ∧ (¬ a0 < 0 → ((a0 < a1 → Q a0 v) ∧ (¬ a0 < a1 → False))))) : RR t d 273 [(0, a0), (0, a1), (2, (-90))] v Q := wp_sound (K := k_273) (cut := []) (f := 15) (cb := false) rfl h
set_option maxRecDepth 100000 in
theorem w_268 {t : Int} {d : Nat} {a0 a1 : Int} {v : Mem} {Q : Int → Mem → Prop} (h : (RR t d 273 [(0, a0), (0, a1), (2, (-90))] v (fun x1 v1 => Q 0 v1))) : RR t (d + 1) 268 [(0, a0), (0, a1)] v Q := wp_sound (K := k_268) (cut := []) (f := 9) (cb := false) rfl h
set_option maxRecDepth 100000 in
theorem s_268 {t : Int} {d : Nat} {a0 a1 : Int} {v : Mem} {Q : Int → Mem → Prop} (h : ((a0 < 0 → False) ∧ (¬ a0 < 0 → ((a0 < a1 → Q 0 v) ∧ (¬ a0 < a1 → False))))) : RR t (d + 1) 268 [(0, a0), (0, a1)] v Q := w_268 (w_273_s88 ⟨fun c1 => (h.1 c1), fun c1 => ⟨fun c2 => ((h.2 c1).1 c2), fun c2 => ((h.2 c1).2 c2)⟩⟩)
set_option maxRecDepth 100000 in
theorem w_278 {t : Int} {d : Nat} {a0 a1 : Int} {v : Mem} {Q : Int → Mem → Prop} (h : ((a0 < a1 → Q (-1) v) ∧ (¬ a0 < a1 → ((a0 = a1 → Q 0 v) ∧ (¬ a0 = a1 → Q 1 v))))) : RR t d 278 [(0, a0), (0, a1)] v Q := wp_sound (K := k_278) (cut := []) (f := 15) (cb := false) rfl h
def f_278 (a0 : Int) (a1 : Int) (v : Mem) : Int := if a0 < a1 then (-1) else if a0 = a1 then 0 else 1
set_option maxRecDepth 100000 in
theorem p_278 {t : Int} {d : Nat} {a0 a1 : Int} {v : Mem} {Q : Int → Mem → Prop} (h : Q (f_278 a0 a1 v) v) : RR t d 278 [(0, a0), (0, a1)] v Q := w_278 ⟨fun c0 => (by unfold f_278 at h; rw [if_pos c0] at h; exact h), fun c0 => ⟨fun c1 => (by unfold f_278 at h; rw [if_neg c0, if_pos c1] at h; exact h), fun c1 => (by unfold f_278 at h; rw [if_neg c0, if_neg c1] at h; exact h)⟩⟩
set_option maxRecDepth 100000 in
theorem w_266_s3 {t : Int} {d : Nat} {v : Mem} {Q : Int → Mem → Prop} (h : (((1 : Int) = 0 → ((-128 ≤ (1 : Int) ∧ (1 : Int) < 128) ∧ Q 1 v)) ∧ (¬ (1 : Int) = 0 → ((-128 ≤ (0 : Int) ∧ (0 : Int) < 128) ∧ Q 0 v)))) : RR t d 266 [(2, (-5))] v Q := wp_sound (K := k_266) (cut := []) (f := 10) (cb := false) rfl h
set_option maxRecDepth 100000 in
theorem s_266_s3 {t : Int} {d : Nat} {v : Mem} {Q : Int → Mem → Prop} (h : Q 0 v) : RR t d 266 [(2, (-5))] v Q := w_266_s3 ⟨fun c => absurd c (by decide), fun _ => ⟨⟨by decide, by decide⟩, h⟩⟩
set_option maxRecDepth 100000 in
theorem w_262_s3 {t : Int} {d : Nat} {v : Mem} {Q : Int → Mem → Prop} (h : (RR t d 266 [(2, (-5))] v (fun x1 v1 => Q (ishr 4 x1) v1))) : RR t (d + 1) 262 [(2, (-5))] v Q := wp_sound (K := k_262) (cut := []) (f := 10) (cb := false) rfl h
set_option maxRecDepth 100000 in
theorem s_262_s3 {t : Int} {d : Nat} {v : Mem} {Q : Int → Mem → Prop} (h : Q 4 v) : RR t (d + 1) 262 [(2, (-5))] v Q := w_262_s3 (s_266_s3 h)
set_option maxRecDepth 100000 in
theorem w_267_s3 {t : Int} {d : Nat} {v : Mem} {Q : Int → Mem → Prop} (h : (((1 : Int) = 0 → (((0 : Int) = 0 ∨ (0 : Int) = 1) ∧ Q 0 v)) ∧ (¬ (1 : Int) = 0 → (((0 : Int) = 0 → (((1 : Int) = 0 ∨ (1 : Int) = 1) ∧ Q 1 v)) ∧ (¬ (0 : Int) = 0 → (((0 : Int) = 0 ∨ (0 : Int) = 1) ∧ Q 0 v)))))) : RR t d 267 [(2, (-5))] v Q := wp_sound (K := k_267) (cut := []) (f := 12) (cb := false) rfl h
set_option maxRecDepth 100000 in
theorem s_267_s3 {t : Int} {d : Nat} {v : Mem} {Q : Int → Mem → Prop} (h : Q 1 v) : RR t d 267 [(2, (-5))] v Q := w_267_s3 ⟨fun c => absurd c (by decide), fun _ => ⟨fun _ => ⟨Or.inr rfl, h⟩, fun c => absurd (by decide) c⟩⟩
set_option maxRecDepth 100000 in
theorem w_269_s47 {t : Int} {d : Nat} {a1 : Int} {v : Mem} {Q : Int → Mem → Prop} (h : (RR t d 268 [(0, a1), (0, 4)] v (fun x1 v1 => ((0 ≤ a1 ∧ a1 < 4) ∧ ((0 ≤ (w16u (iand (List.getD (sB.getD 3 []) (Int.toNat a1) 0) 255)) ∧ (w16u (iand (List.getD (sB.getD 3 []) (Int.toNat a1) 0) 255)) < 65536) ∧ Q (w16u (iand (List.getD (sB.getD 3 []) (Int.toNat a1) 0) 255)) v1))))) : RR t (d + 1) 269 [(2, (-49)), (0, a1)] v Q := wp_sound (K := k_269) (cut := []) (f := 14) (cb := false) rfl h
set_option maxRecDepth 100000 in
theorem s_269_s47 {t : Int} {d : Nat} {a1 : Int} {v : Mem} {Q : Int → Mem → Prop} (h : ((a1 < 0 → False) ∧ (¬ a1 < 0 → ((a1 < 4 → ((0 ≤ (w16u (iand (List.getD (sB.getD 3 []) (Int.toNat a1) 0) 255)) ∧ (w16u (iand (List.getD (sB.getD 3 []) (Int.toNat a1) 0) 255)) < 65536) ∧ Q (w16u (iand (List.getD (sB.getD 3 []) (Int.toNat a1) 0) 255)) v)) ∧ (¬ a1 < 4 → False))))) : RR t (d + 2) 269 [(2, (-49)), (0, a1)] v Q := w_269_s47 (s_268 ⟨fun c1 => (h.1 c1), fun c1 => ⟨fun c2 => ⟨⟨by omega, by omega⟩, ⟨((h.2 c1).1 c2).1, ((h.2 c1).1 c2).2⟩⟩, fun c2 => ((h.2 c1).2 c2)⟩⟩)
set_option maxRecDepth 100000 in
theorem w_263_s3 {t : Int} {d : Nat} {a1 : Int} {v : Mem} {Q : Int → Mem → Prop} (h : (RR t d 267 [(2, (-5))] v (fun x1 v1 => ((x1 = 0 → False) ∧ (¬ x1 = 0 → (RR t d 269 [(2, (-49)), (0, a1)] v1 (fun x2 v2 => ((0 ≤ x2 ∧ x2 < 65536) ∧ Q x2 v2)))))))) : RR t (d + 1) 263 [(2, (-5)), (0, a1)] v Q := wp_sound (K := k_263) (cut := []) (f := 16) (cb := false) rfl h
set_option maxRecDepth 100000 in
theorem s_263_s3 {t : Int} {d : Nat} {a1 : Int} {v : Mem} {Q : Int → Mem → Prop} (h : ((a1 < 0 → False) ∧ (¬ a1 < 0 → ((a1 < 4 → ((0 ≤ (w16u (iand (List.getD (sB.getD 3 []) (Int.toNat a1) 0) 255)) ∧ (w16u (iand (List.getD (sB.getD 3 []) (Int.toNat a1) 0) 255)) < 65536) ∧ ((0 ≤ (w16u (iand (List.getD (sB.getD 3 []) (Int.toNat a1) 0) 255)) ∧ (w16u (iand (List.getD (sB.getD 3 []) (Int.toNat a1) 0) 255)) < 65536) ∧ Q (w16u (iand (List.getD (sB.getD 3 []) (Int.toNat a1) 0) 255)) v))) ∧ (¬ a1 < 4 → False))))) : RR t (d + 3) 263 [(2, (-5)), (0, a1)] v Q := w_263_s3 (s_267_s3 ⟨fun c => absurd c (by decide), fun _ => s_269_s47 ⟨fun c1 => (h.1 c1), fun c1 => ⟨fun c2 => ⟨((h.2 c1).1 c2).1, ⟨((h.2 c1).1 c2).2.1, ((h.2 c1).1 c2).2.2⟩⟩, fun c2 => ((h.2 c1).2 c2)⟩⟩⟩)
theorem p_263_s3 {t : Int} {d : Nat} {a1 : Int} {v : Mem} {Q : Int → Mem → Prop} (h : (0 ≤ a1 ∧ a1 < 4) ∧ Q (List.getD (sB.getD 3 []) (Int.toNat a1) 0) v) : RR t (d + 3) 263 [(2, (-5)), (0, a1)] v Q := by
  have e := chrE 3 (Int.toNat a1)
  have e2 := chr_r 3 (Int.toNat a1)
  refine s_263_s3 ?_
  simp only [e]
  exact ⟨fun c => absurd h.1.1 (by omega), fun c => ⟨fun c2 => ⟨⟨e2.1, by omega⟩, ⟨e2.1, by omega⟩, h.2⟩, fun c2 => absurd h.1.2 c2⟩⟩
set_option maxRecDepth 100000 in
theorem w_270 {t : Int} {d : Nat} {a0 : Int} {v : Mem} {Q : Int → Mem → Prop} (h : ((a0 < 0 → (((0 : Int) = 0 ∨ (0 : Int) = 1) ∧ Q 0 v)) ∧ (¬ a0 < 0 → ((255 < a0 → (((0 : Int) = 0 ∨ (0 : Int) = 1) ∧ Q 0 v)) ∧ (¬ 255 < a0 → (((1 : Int) = 0 ∨ (1 : Int) = 1) ∧ Q 1 v)))))) : RR t d 270 [(0, a0)] v Q := wp_sound (K := k_270) (cut := []) (f := 12) (cb := false) rfl h
set_option maxRecDepth 100000 in
theorem s_270 {t : Int} {d : Nat} {a0 : Int} {v : Mem} {Q : Int → Mem → Prop} (h : ((a0 < 0 → Q 0 v) ∧ (¬ a0 < 0 → ((255 < a0 → Q 0 v) ∧ (¬ 255 < a0 → Q 1 v))))) : RR t d 270 [(0, a0)] v Q := w_270 ⟨fun c1 => ⟨Or.inl rfl, (h.1 c1)⟩, fun c1 => ⟨fun c2 => ⟨Or.inl rfl, ((h.2 c1).1 c2)⟩, fun c2 => ⟨Or.inr rfl, ((h.2 c1).2 c2)⟩⟩⟩
set_option maxRecDepth 100000 in
theorem w_267_s1 {t : Int} {d : Nat} {v : Mem} {Q : Int → Mem → Prop} (h : (((1 : Int) = 0 → (((0 : Int) = 0 ∨ (0 : Int) = 1) ∧ Q 0 v)) ∧ (¬ (1 : Int) = 0 → (((0 : Int) = 0 → (((1 : Int) = 0 ∨ (1 : Int) = 1) ∧ Q 1 v)) ∧ (¬ (0 : Int) = 0 → (((0 : Int) = 0 ∨ (0 : Int) = 1) ∧ Q 0 v)))))) : RR t d 267 [(2, (-3))] v Q := wp_sound (K := k_267) (cut := []) (f := 12) (cb := false) rfl h
set_option maxRecDepth 100000 in
theorem s_267_s1 {t : Int} {d : Nat} {v : Mem} {Q : Int → Mem → Prop} (h : Q 1 v) : RR t d 267 [(2, (-3))] v Q := w_267_s1 ⟨fun c => absurd c (by decide), fun _ => ⟨fun _ => ⟨Or.inr rfl, h⟩, fun c => absurd (by decide) c⟩⟩
set_option maxRecDepth 100000 in
theorem w_266_s1 {t : Int} {d : Nat} {v : Mem} {Q : Int → Mem → Prop} (h : (((1 : Int) = 0 → ((-128 ≤ (1 : Int) ∧ (1 : Int) < 128) ∧ Q 1 v)) ∧ (¬ (1 : Int) = 0 → ((-128 ≤ (0 : Int) ∧ (0 : Int) < 128) ∧ Q 0 v)))) : RR t d 266 [(2, (-3))] v Q := wp_sound (K := k_266) (cut := []) (f := 10) (cb := false) rfl h
set_option maxRecDepth 100000 in
theorem s_266_s1 {t : Int} {d : Nat} {v : Mem} {Q : Int → Mem → Prop} (h : Q 0 v) : RR t d 266 [(2, (-3))] v Q := w_266_s1 ⟨fun c => absurd c (by decide), fun _ => ⟨⟨by decide, by decide⟩, h⟩⟩
set_option maxRecDepth 100000 in
theorem w_262_s1 {t : Int} {d : Nat} {v : Mem} {Q : Int → Mem → Prop} (h : (RR t d 266 [(2, (-3))] v (fun x1 v1 => Q (ishr 18 x1) v1))) : RR t (d + 1) 262 [(2, (-3))] v Q := wp_sound (K := k_262) (cut := []) (f := 10) (cb := false) rfl h
set_option maxRecDepth 100000 in
theorem s_262_s1 {t : Int} {d : Nat} {v : Mem} {Q : Int → Mem → Prop} (h : Q 18 v) : RR t (d + 1) 262 [(2, (-3))] v Q := w_262_s1 (s_266_s1 h)
set_option maxRecDepth 100000 in
theorem w_272_s45 {t : Int} {d : Nat} {a1 a2 a3 : Int} {v : Mem} {Q : Int → Mem → Prop} (h : LL t d 272 7 [(2, (-47)), (3, 0), (3, 0), (0, a3), (0, (w8 a1)), (0, a2)] [] v Q) : RR t d 272 [(2, (-47)), (0, a1), (0, a2), (0, a3)] v Q := wp_sound (K := k_272) (cut := [(7, [1, 2])]) (f := 22) (cb := false) rfl h
set_option maxRecDepth 100000 in
theorem w_272_s45_7 {t : Int} {d : Nat} {l3 l4 l5 : Int} {v : Mem} {Q : Int → Mem → Prop} (h : ((l5 < l3 → ((0 ≤ l5 ∧ l5 < 18) ∧ (((List.getD (sB.getD 1 []) (Int.toNat l5) 0) = l4 → Q l5 v) ∧ (¬ (List.getD (sB.getD 1 []) (Int.toNat l5) 0) = l4 → LL t d 272 7 [(2, (-47)), (3, 0), (3, 0), (0, l3), (0, l4), (0, (w32 (l5 + 1)))] [] v Q)))) ∧ (¬ l5 < l3 → Q (-1) v))) : LL t d 272 7 [(2, (-47)), (3, 0), (3, 0), (0, l3), (0, l4), (0, l5)] [] v Q := wp_sound (K := k_272) (cut := [(7, [1, 2])]) (f := 22) (cb := false) rfl h
set_option maxRecDepth 100000 in
theorem w_271_s45 {t : Int} {d : Nat} {a1 a2 a3 : Int} {v : Mem} {Q : Int → Mem → Prop} (h : (RR t d 270 [(0, a1)] v (fun x1 v1 => ((x1 = 0 → Q (-1) v1) ∧ (¬ x1 = 0 → (RR t d 275 [(0, a2), (0, 0)] v1 (fun x2 v2 => (RR t d 276 [(0, a3), (0, 18)] v2 (fun x3 v3 => ((x2 < x3 → (RR t d 272 [(2, (-47)), (0, a1), (0, x2), (0, x3)] v3 (fun x4 v4 => Q x4 v4))) ∧ (¬ x2 < x3 → Q (-1) v3))))))))))) : RR t (d + 1) 271 [(2, (-47)), (0, a1), (0, a2), (0, a3)] v Q := wp_sound (K := k_271) (cut := []) (f := 28) (cb := false) rfl h
set_option maxRecDepth 100000 in
theorem s_271_s45 {t : Int} {d : Nat} {a1 a2 a3 : Int} {v : Mem} {Q : Int → Mem → Prop} (h : ((a1 < 0 → Q (-1) v) ∧ (¬ a1 < 0 → ((255 < a1 → Q (-1) v) ∧ (¬ 255 < a1 → (((f_275 a2 0 v) < (f_276 a3 18 v) → (RR t d 272 [(2, (-47)), (0, a1), (0, (f_275 a2 0 v)), (0, (f_276 a3 18 v))] v (fun x4 v4 => Q x4 v4))) ∧ (¬ (f_275 a2 0 v) < (f_276 a3 18 v) → Q (-1) v))))))) : RR t (d + 1) 271 [(2, (-47)), (0, a1), (0, a2), (0, a3)] v Q := w_271_s45 (s_270 ⟨fun c1 => ⟨fun _ => (h.1 c1), fun c => absurd (by decide) c⟩, fun c1 => ⟨fun c2 => ⟨fun _ => ((h.2 c1).1 c2), fun c => absurd (by decide) c⟩, fun c2 => ⟨fun c => absurd c (by decide), fun _ => p_275 (p_276 ⟨fun c3 => RR.imp (((h.2 c1).2 c2).1 c3) (fun x4 v4 hx4 => hx4), fun c3 => (((h.2 c1).2 c2).2 c3)⟩)⟩⟩⟩)
set_option maxRecDepth 100000 in
theorem w_265_s1 {t : Int} {d : Nat} {a1 a2 : Int} {v : Mem} {Q : Int → Mem → Prop} (h : (RR t d 267 [(2, (-3))] v (fun x1 v1 => ((x1 = 0 → (RR t d 262 [(2, (-3))] v1 (fun x2 v2 => False))) ∧ (¬ x1 = 0 → (RR t d 262 [(2, (-3))] v1 (fun x3 v3 => (RR t d 271 [(2, (-47)), (0, a1), (0, a2), (0, x3)] v3 (fun x4 v4 => Q x4 v4))))))))) : RR t (d + 1) 265 [(2, (-3)), (0, a1), (0, a2)] v Q := wp_sound (K := k_265) (cut := []) (f := 22) (cb := false) rfl h
set_option maxRecDepth 100000 in
theorem s_265_s1 {t : Int} {d : Nat} {a1 a2 : Int} {v : Mem} {Q : Int → Mem → Prop} (h : (RR t (d + 1) 271 [(2, (-47)), (0, a1), (0, a2), (0, 18)] v (fun x1 v1 => Q x1 v1))) : RR t (d + 2) 265 [(2, (-3)), (0, a1), (0, a2)] v Q := w_265_s1 (s_267_s1 ⟨fun c => absurd c (by decide), fun _ => s_262_s1 (RR.imp h (fun x1 v1 hx1 => hx1))⟩)
set_option maxRecDepth 100000 in
theorem w_264_s1 {t : Int} {d : Nat} {a1 : Int} {v : Mem} {Q : Int → Mem → Prop} (h : (RR t d 265 [(2, (-3)), (0, a1), (0, 0)] v (fun x1 v1 => Q x1 v1))) : RR t (d + 1) 264 [(2, (-3)), (0, a1)] v Q := wp_sound (K := k_264) (cut := []) (f := 8) (cb := false) rfl h
set_option maxRecDepth 100000 in
theorem w_266_s2 {t : Int} {d : Nat} {v : Mem} {Q : Int → Mem → Prop} (h : (((1 : Int) = 0 → ((-128 ≤ (1 : Int) ∧ (1 : Int) < 128) ∧ Q 1 v)) ∧ (¬ (1 : Int) = 0 → ((-128 ≤ (0 : Int) ∧ (0 : Int) < 128) ∧ Q 0 v)))) : RR t d 266 [(2, (-4))] v Q := wp_sound (K := k_266) (cut := []) (f := 10) (cb := false) rfl h
set_option maxRecDepth 100000 in
theorem s_266_s2 {t : Int} {d : Nat} {v : Mem} {Q : Int → Mem → Prop} (h : Q 0 v) : RR t d 266 [(2, (-4))] v Q := w_266_s2 ⟨fun c => absurd c (by decide), fun _ => ⟨⟨by decide, by decide⟩, h⟩⟩
set_option maxRecDepth 100000 in
theorem w_262_s2 {t : Int} {d : Nat} {v : Mem} {Q : Int → Mem → Prop} (h : (RR t d 266 [(2, (-4))] v (fun x1 v1 => Q (ishr 4 x1) v1))) : RR t (d + 1) 262 [(2, (-4))] v Q := wp_sound (K := k_262) (cut := []) (f := 10) (cb := false) rfl h
set_option maxRecDepth 100000 in
theorem s_262_s2 {t : Int} {d : Nat} {v : Mem} {Q : Int → Mem → Prop} (h : Q 4 v) : RR t (d + 1) 262 [(2, (-4))] v Q := w_262_s2 (s_266_s2 h)
set_option maxRecDepth 100000 in
theorem w_267_s2 {t : Int} {d : Nat} {v : Mem} {Q : Int → Mem → Prop} (h : (((1 : Int) = 0 → (((0 : Int) = 0 ∨ (0 : Int) = 1) ∧ Q 0 v)) ∧ (¬ (1 : Int) = 0 → (((0 : Int) = 0 → (((1 : Int) = 0 ∨ (1 : Int) = 1) ∧ Q 1 v)) ∧ (¬ (0 : Int) = 0 → (((0 : Int) = 0 ∨ (0 : Int) = 1) ∧ Q 0 v)))))) : RR t d 267 [(2, (-4))] v Q := wp_sound (K := k_267) (cut := []) (f := 12) (cb := false) rfl h
set_option maxRecDepth 100000 in
theorem s_267_s2 {t : Int} {d : Nat} {v : Mem} {Q : Int → Mem → Prop} (h : Q 1 v) : RR t d 267 [(2, (-4))] v Q := w_267_s2 ⟨fun c => absurd c (by decide), fun _ => ⟨fun _ => ⟨Or.inr rfl, h⟩, fun c => absurd (by decide) c⟩⟩
set_option maxRecDepth 100000 in
theorem w_269_s46 {t : Int} {d : Nat} {a1 : Int} {v : Mem} {Q : Int → Mem → Prop} (h : (RR t d 268 [(0, a1), (0, 4)] v (fun x1 v1 => ((0 ≤ a1 ∧ a1 < 4) ∧ ((0 ≤ (w16u (iand (List.getD (sB.getD 2 []) (Int.toNat a1) 0) 255)) ∧ (w16u (iand (List.getD (sB.getD 2 []) (Int.toNat a1) 0) 255)) < 65536) ∧ Q (w16u (iand (List.getD (sB.getD 2 []) (Int.toNat a1) 0) 255)) v1))))) : RR t (d + 1) 269 [(2, (-48)), (0, a1)] v Q := wp_sound (K := k_269) (cut := []) (f := 14) (cb := false) rfl h
set_option maxRecDepth 100000 in
theorem s_269_s46 {t : Int} {d : Nat} {a1 : Int} {v : Mem} {Q : Int → Mem → Prop} (h : ((a1 < 0 → False) ∧ (¬ a1 < 0 → ((a1 < 4 → ((0 ≤ (w16u (iand (List.getD (sB.getD 2 []) (Int.toNat a1) 0) 255)) ∧ (w16u (iand (List.getD (sB.getD 2 []) (Int.toNat a1) 0) 255)) < 65536) ∧ Q (w16u (iand (List.getD (sB.getD 2 []) (Int.toNat a1) 0) 255)) v)) ∧ (¬ a1 < 4 → False))))) : RR t (d + 2) 269 [(2, (-48)), (0, a1)] v Q := w_269_s46 (s_268 ⟨fun c1 => (h.1 c1), fun c1 => ⟨fun c2 => ⟨⟨by omega, by omega⟩, ⟨((h.2 c1).1 c2).1, ((h.2 c1).1 c2).2⟩⟩, fun c2 => ((h.2 c1).2 c2)⟩⟩)
set_option maxRecDepth 100000 in
theorem w_263_s2 {t : Int} {d : Nat} {a1 : Int} {v : Mem} {Q : Int → Mem → Prop} (h : (RR t d 267 [(2, (-4))] v (fun x1 v1 => ((x1 = 0 → False) ∧ (¬ x1 = 0 → (RR t d 269 [(2, (-48)), (0, a1)] v1 (fun x2 v2 => ((0 ≤ x2 ∧ x2 < 65536) ∧ Q x2 v2)))))))) : RR t (d + 1) 263 [(2, (-4)), (0, a1)] v Q := wp_sound (K := k_263) (cut := []) (f := 16) (cb := false) rfl h
set_option maxRecDepth 100000 in
theorem s_263_s2 {t : Int} {d : Nat} {a1 : Int} {v : Mem} {Q : Int → Mem → Prop} (h : ((a1 < 0 → False) ∧ (¬ a1 < 0 → ((a1 < 4 → ((0 ≤ (w16u (iand (List.getD (sB.getD 2 []) (Int.toNat a1) 0) 255)) ∧ (w16u (iand (List.getD (sB.getD 2 []) (Int.toNat a1) 0) 255)) < 65536) ∧ ((0 ≤ (w16u (iand (List.getD (sB.getD 2 []) (Int.toNat a1) 0) 255)) ∧ (w16u (iand (List.getD (sB.getD 2 []) (Int.toNat a1) 0) 255)) < 65536) ∧ Q (w16u (iand (List.getD (sB.getD 2 []) (Int.toNat a1) 0) 255)) v))) ∧ (¬ a1 < 4 → False))))) : RR t (d + 3) 263 [(2, (-4)), (0, a1)] v Q := w_263_s2 (s_267_s2 ⟨fun c => absurd c (by decide), fun _ => s_269_s46 ⟨fun c1 => (h.1 c1), fun c1 => ⟨fun c2 => ⟨((h.2 c1).1 c2).1, ⟨((h.2 c1).1 c2).2.1, ((h.2 c1).1 c2).2.2⟩⟩, fun c2 => ((h.2 c1).2 c2)⟩⟩⟩)
theorem p_263_s2 {t : Int} {d : Nat} {a1 : Int} {v : Mem} {Q : Int → Mem → Prop} (h : (0 ≤ a1 ∧ a1 < 4) ∧ Q (List.getD (sB.getD 2 []) (Int.toNat a1) 0) v) : RR t (d + 3) 263 [(2, (-4)), (0, a1)] v Q := by
  have e := chrE 2 (Int.toNat a1)
  have e2 := chr_r 2 (Int.toNat a1)
  refine s_263_s2 ?_
  simp only [e]
  exact ⟨fun c => absurd h.1.1 (by omega), fun c => ⟨fun c2 => ⟨⟨e2.1, by omega⟩, ⟨e2.1, by omega⟩, h.2⟩, fun c2 => absurd h.1.2 c2⟩⟩
set_option maxRecDepth 100000 in
theorem w_266_s4 {t : Int} {d : Nat} {v : Mem} {Q : Int → Mem → Prop} (h : (((1 : Int) = 0 → ((-128 ≤ (1 : Int) ∧ (1 : Int) < 128) ∧ Q 1 v)) ∧ (¬ (1 : Int) = 0 → ((-128 ≤ (0 : Int) ∧ (0 : Int) < 128) ∧ Q 0 v)))) : RR t d 266 [(2, (-6))] v Q := wp_sound (K := k_266) (cut := []) (f := 10) (cb := false) rfl h
set_option maxRecDepth 100000 in
theorem s_266_s4 {t : Int} {d : Nat} {v : Mem} {Q : Int → Mem → Prop} (h : Q 0 v) : RR t d 266 [(2, (-6))] v Q := w_266_s4 ⟨fun c => absurd c (by decide), fun _ => ⟨⟨by decide, by decide⟩, h⟩⟩
set_option maxRecDepth 100000 in
theorem w_262_s4 {t : Int} {d : Nat} {v : Mem} {Q : Int → Mem → Prop} (h : (RR t d 266 [(2, (-6))] v (fun x1 v1 => Q (ishr 75 x1) v1))) : RR t (d + 1) 262 [(2, (-6))] v Q := wp_sound (K := k_262) (cut := []) (f := 10) (cb := false) rfl h
set_option maxRecDepth 100000 in
theorem s_262_s4 {t : Int} {d : Nat} {v : Mem} {Q : Int → Mem → Prop} (h : Q 75 v) : RR t (d + 1) 262 [(2, (-6))] v Q := w_262_s4 (s_266_s4 h)
set_option maxRecDepth 100000 in
theorem w_267_s4 {t : Int} {d : Nat} {v : Mem} {Q : Int → Mem → Prop} (h : (((1 : Int) = 0 → (((0 : Int) = 0 ∨ (0 : Int) = 1) ∧ Q 0 v)) ∧ (¬ (1 : Int) = 0 → (((0 : Int) = 0 → (((1 : Int) = 0 ∨ (1 : Int) = 1) ∧ Q 1 v)) ∧ (¬ (0 : Int) = 0 → (((0 : Int) = 0 ∨ (0 : Int) = 1) ∧ Q 0 v)))))) : RR t d 267 [(2, (-6))] v Q := wp_sound (K := k_267) (cut := []) (f := 12) (cb := false) rfl h
set_option maxRecDepth 100000 in
theorem s_267_s4 {t : Int} {d : Nat} {v : Mem} {Q : Int → Mem → Prop} (h : Q 1 v) : RR t d 267 [(2, (-6))] v Q := w_267_s4 ⟨fun c => absurd c (by decide), fun _ => ⟨fun _ => ⟨Or.inr rfl, h⟩, fun c => absurd (by decide) c⟩⟩
set_option maxRecDepth 100000 in
theorem w_269_s48 {t : Int} {d : Nat} {a1 : Int} {v : Mem} {Q : Int → Mem → Prop} (h : (RR t d 268 [(0, a1), (0, 75)] v (fun x1 v1 => ((0 ≤ a1 ∧ a1 < 75) ∧ ((0 ≤ (w16u (iand (List.getD (sB.getD 4 []) (Int.toNat a1) 0) 255)) ∧ (w16u (iand (List.getD (sB.getD 4 []) (Int.toNat a1) 0) 255)) < 65536) ∧ Q (w16u (iand (List.getD (sB.getD 4 []) (Int.toNat a1) 0) 255)) v1))))) : RR t (d + 1) 269 [(2, (-50)), (0, a1)] v Q := wp_sound (K := k_269) (cut := []) (f := 14) (cb := false) rfl h
set_option maxRecDepth 100000 in
theorem s_269_s48 {t : Int} {d : Nat} {a1 : Int} {v : Mem} {Q : Int → Mem → Prop} (h : ((a1 < 0 → False) ∧ (¬ a1 < 0 → ((a1 < 75 → ((0 ≤ (w16u (iand (List.getD (sB.getD 4 []) (Int.toNat a1) 0) 255)) ∧ (w16u (iand (List.getD (sB.getD 4 []) (Int.toNat a1) 0) 255)) < 65536) ∧ Q (w16u (iand (List.getD (sB.getD 4 []) (Int.toNat a1) 0) 255)) v)) ∧ (¬ a1 < 75 → False))))) : RR t (d + 2) 269 [(2, (-50)), (0, a1)] v Q := w_269_s48 (s_268 ⟨fun c1 => (h.1 c1), fun c1 => ⟨fun c2 => ⟨⟨by omega, by omega⟩, ⟨((h.2 c1).1 c2).1, ((h.2 c1).1 c2).2⟩⟩, fun c2 => ((h.2 c1).2 c2)⟩⟩)
set_option maxRecDepth 100000 in
theorem w_263_s4 {t : Int} {d : Nat} {a1 : Int} {v : Mem} {Q : Int → Mem → Prop} (h : (RR t d 267 [(2, (-6))] v (fun x1 v1 => ((x1 = 0 → False) ∧ (¬ x1 = 0 → (RR t d 269 [(2, (-50)), (0, a1)] v1 (fun x2 v2 => ((0 ≤ x2 ∧ x2 < 65536) ∧ Q x2 v2)))))))) : RR t (d + 1) 263 [(2, (-6)), (0, a1)] v Q := wp_sound (K := k_263) (cut := []) (f := 16) (cb := false) rfl h
set_option maxRecDepth 100000 in
theorem s_263_s4 {t : Int} {d : Nat} {a1 : Int} {v : Mem} {Q : Int → Mem → Prop} (h : ((a1 < 0 → False) ∧ (¬ a1 < 0 → ((a1 < 75 → ((0 ≤ (w16u (iand (List.getD (sB.getD 4 []) (Int.toNat a1) 0) 255)) ∧ (w16u (iand (List.getD (sB.getD 4 []) (Int.toNat a1) 0) 255)) < 65536) ∧ ((0 ≤ (w16u (iand (List.getD (sB.getD 4 []) (Int.toNat a1) 0) 255)) ∧ (w16u (iand (List.getD (sB.getD 4 []) (Int.toNat a1) 0) 255)) < 65536) ∧ Q (w16u (iand (List.getD (sB.getD 4 []) (Int.toNat a1) 0) 255)) v))) ∧ (¬ a1 < 75 → False))))) : RR t (d + 3) 263 [(2, (-6)), (0, a1)] v Q := w_263_s4 (s_267_s4 ⟨fun c => absurd c (by decide), fun _ => s_269_s48 ⟨fun c1 => (h.1 c1), fun c1 => ⟨fun c2 => ⟨((h.2 c1).1 c2).1, ⟨((h.2 c1).1 c2).2.1, ((h.2 c1).1 c2).2.2⟩⟩, fun c2 => ((h.2 c1).2 c2)⟩⟩⟩)
theorem p_263_s4 {t : Int} {d : Nat} {a1 : Int} {v : Mem} {Q : Int → Mem → Prop} (h : (0 ≤ a1 ∧ a1 < 75) ∧ Q (List.getD (sB.getD 4 []) (Int.toNat a1) 0) v) : RR t (d + 3) 263 [(2, (-6)), (0, a1)] v Q := by
  have e := chrE 4 (Int.toNat a1)
  have e2 := chr_r 4 (Int.toNat a1)
  refine s_263_s4 ?_
  simp only [e]
  exact ⟨fun c => absurd h.1.1 (by omega), fun c => ⟨fun c2 => ⟨⟨e2.1, by omega⟩, ⟨e2.1, by omega⟩, h.2⟩, fun c2 => absurd h.1.2 c2⟩⟩
set_option maxRecDepth 100000 in
theorem w_277 {t : Int} {d : Nat} {a0 a1 : Int} {v : Mem} {Q : Int → Mem → Prop} (h : ((0 < (lcm3 a0 a1) → Q a1 v) ∧ (¬ 0 < (lcm3 a0 a1) → Q a0 v))) : RR t d 277 [(1, a0), (1, a1)] v Q := wp_sound (K := k_277) (cut := []) (f := 11) (cb := false) rfl h
def f_277 (a0 : Int) (a1 : Int) (v : Mem) : Int := if 0 < (lcm3 a0 a1) then a1 else a0
set_option maxRecDepth 100000 in
theorem p_277 {t : Int} {d : Nat} {a0 a1 : Int} {v : Mem} {Q : Int → Mem → Prop} (h : Q (f_277 a0 a1 v) v) : RR t d 277 [(1, a0), (1, a1)] v Q := w_277 ⟨fun c0 => (by unfold f_277 at h; rw [if_pos c0] at h; exact h), fun c0 => (by unfold f_277 at h; rw [if_neg c0] at h; exact h)⟩
set_option maxRecDepth 100000 in
theorem w_267_s5 {t : Int} {d : Nat} {v : Mem} {Q : Int → Mem → Prop} (h : (((1 : Int) = 0 → (((0 : Int) = 0 ∨ (0 : Int) = 1) ∧ Q 0 v)) ∧ (¬ (1 : Int) = 0 → (((0 : Int) = 0 → (((1 : Int) = 0 ∨ (1 : Int) = 1) ∧ Q 1 v)) ∧ (¬ (0 : Int) = 0 → (((0 : Int) = 0 ∨ (0 : Int) = 1) ∧ Q 0 v)))))) : RR t d 267 [(2, (-7))] v Q := wp_sound (K := k_267) (cut := []) (f := 12) (cb := false) rfl h
set_option maxRecDepth 100000 in
theorem s_267_s5 {t : Int} {d : Nat} {v : Mem} {Q : Int → Mem → Prop} (h : Q 1 v) : RR t d 267 [(2, (-7))] v Q := w_267_s5 ⟨fun c => absurd c (by decide), fun _ => ⟨fun _ => ⟨Or.inr rfl, h⟩, fun c => absurd (by decide) c⟩⟩
set_option maxRecDepth 100000 in
theorem w_266_s5 {t : Int} {d : Nat} {v : Mem} {Q : Int → Mem → Prop} (h : (((1 : Int) = 0 → ((-128 ≤ (1 : Int) ∧ (1 : Int) < 128) ∧ Q 1 v)) ∧ (¬ (1 : Int) = 0 → ((-128 ≤ (0 : Int) ∧ (0 : Int) < 128) ∧ Q 0 v)))) : RR t d 266 [(2, (-7))] v Q := wp_sound (K := k_266) (cut := []) (f := 10) (cb := false) rfl h
set_option maxRecDepth 100000 in
theorem s_266_s5 {t : Int} {d : Nat} {v : Mem} {Q : Int → Mem → Prop} (h : Q 0 v) : RR t d 266 [(2, (-7))] v Q := w_266_s5 ⟨fun c => absurd c (by decide), fun _ => ⟨⟨by decide, by decide⟩, h⟩⟩
set_option maxRecDepth 100000 in
theorem w_262_s5 {t : Int} {d : Nat} {v : Mem} {Q : Int → Mem → Prop} (h : (RR t d 266 [(2, (-7))] v (fun x1 v1 => Q (ishr 15 x1) v1))) : RR t (d + 1) 262 [(2, (-7))] v Q := wp_sound (K := k_262) (cut := []) (f := 10) (cb := false) rfl h
set_option maxRecDepth 100000 in
theorem s_262_s5 {t : Int} {d : Nat} {v : Mem} {Q : Int → Mem → Prop} (h : Q 15 v) : RR t (d + 1) 262 [(2, (-7))] v Q := w_262_s5 (s_266_s5 h)
set_option maxRecDepth 100000 in
theorem w_272_s49 {t : Int} {d : Nat} {a1 a2 a3 : Int} {v : Mem} {Q : Int → Mem → Prop} (h : LL t d 272 7 [(2, (-51)), (3, 0), (3, 0), (0, a3), (0, (w8 a1)), (0, a2)] [] v Q) : RR t d 272 [(2, (-51)), (0, a1), (0, a2), (0, a3)] v Q := wp_sound (K := k_272) (cut := [(7, [1, 2])]) (f := 22) (cb := false) rfl h
set_option maxRecDepth 100000 in
theorem w_272_s49_7 {t : Int} {d : Nat} {l3 l4 l5 : Int} {v : Mem} {Q : Int → Mem → Prop} (h : ((l5 < l3 → ((0 ≤ l5 ∧ l5 < 15) ∧ (((List.getD (sB.getD 5 []) (Int.toNat l5) 0) = l4 → Q l5 v) ∧ (¬ (List.getD (sB.getD 5 []) (Int.toNat l5) 0) = l4 → LL t d 272 7 [(2, (-51)), (3, 0), (3, 0), (0, l3), (0, l4), (0, (w32 (l5 + 1)))] [] v Q)))) ∧ (¬ l5 < l3 → Q (-1) v))) : LL t d 272 7 [(2, (-51)), (3, 0), (3, 0), (0, l3), (0, l4), (0, l5)] [] v Q := wp_sound (K := k_272) (cut := [(7, [1, 2])]) (f := 22) (cb := false) rfl h
set_option maxRecDepth 100000 in
theorem w_271_s49 {t : Int} {d : Nat} {a1 a2 a3 : Int} {v : Mem} {Q : Int → Mem → Prop} (h : (RR t d 270 [(0, a1)] v (fun x1 v1 => ((x1 = 0 → Q (-1) v1) ∧ (¬ x1 = 0 → (RR t d 275 [(0, a2), (0, 0)] v1 (fun x2 v2 => (RR t d 276 [(0, a3), (0, 15)] v2 (fun x3 v3 => ((x2 < x3 → (RR t d 272 [(2, (-51)), (0, a1), (0, x2), (0, x3)] v3 (fun x4 v4 => Q x4 v4))) ∧ (¬ x2 < x3 → Q (-1) v3))))))))))) : RR t (d + 1) 271 [(2, (-51)), (0, a1), (0, a2), (0, a3)] v Q := wp_sound (K := k_271) (cut := []) (f := 28) (cb := false) rfl h
set_option maxRecDepth 100000 in
theorem s_271_s49 {t : Int} {d : Nat} {a1 a2 a3 : Int} {v : Mem} {Q : Int → Mem → Prop} (h : ((a1 < 0 → Q (-1) v) ∧ (¬ a1 < 0 → ((255 < a1 → Q (-1) v) ∧ (¬ 255 < a1 → (((f_275 a2 0 v) < (f_276 a3 15 v) → (RR t d 272 [(2, (-51)), (0, a1), (0, (f_275 a2 0 v)), (0, (f_276 a3 15 v))] v (fun x4 v4 => Q x4 v4))) ∧ (¬ (f_275 a2 0 v) < (f_276 a3 15 v) → Q (-1) v))))))) : RR t (d + 1) 271 [(2, (-51)), (0, a1), (0, a2), (0, a3)] v Q := w_271_s49 (s_270 ⟨fun c1 => ⟨fun _ => (h.1 c1), fun c => absurd (by decide) c⟩, fun c1 => ⟨fun c2 => ⟨fun _ => ((h.2 c1).1 c2), fun c => absurd (by decide) c⟩, fun c2 => ⟨fun c => absurd c (by decide), fun _ => p_275 (p_276 ⟨fun c3 => RR.imp (((h.2 c1).2 c2).1 c3) (fun x4 v4 hx4 => hx4), fun c3 => (((h.2 c1).2 c2).2 c3)⟩)⟩⟩⟩)
set_option maxRecDepth 100000 in
theorem w_265_s5 {t : Int} {d : Nat} {a1 a2 : Int} {v : Mem} {Q : Int → Mem → Prop} (h : (RR t d 267 [(2, (-7))] v (fun x1 v1 => ((x1 = 0 → (RR t d 262 [(2, (-7))] v1 (fun x2 v2 => False))) ∧ (¬ x1 = 0 → (RR t d 262 [(2, (-7))] v1 (fun x3 v3 => (RR t d 271 [(2, (-51)), (0, a1), (0, a2), (0, x3)] v3 (fun x4 v4 => Q x4 v4))))))))) : RR t (d + 1) 265 [(2, (-7)), (0, a1), (0, a2)] v Q := wp_sound (K := k_265) (cut := []) (f := 22) (cb := false) rfl h
set_option maxRecDepth 100000 in
theorem s_265_s5 {t : Int} {d : Nat} {a1 a2 : Int} {v : Mem} {Q : Int → Mem → Prop} (h : (RR t (d + 1) 271 [(2, (-51)), (0, a1), (0, a2), (0, 15)] v (fun x1 v1 => Q x1 v1))) : RR t (d + 2) 265 [(2, (-7)), (0, a1), (0, a2)] v Q := w_265_s5 (s_267_s5 ⟨fun c => absurd c (by decide), fun _ => s_262_s5 (RR.imp h (fun x1 v1 hx1 => hx1))⟩)
set_option maxRecDepth 100000 in
theorem w_264_s5 {t : Int} {d : Nat} {a1 : Int} {v : Mem} {Q : Int → Mem → Prop} (h : (RR t d 265 [(2, (-7)), (0, a1), (0, 0)] v (fun x1 v1 => Q x1 v1))) : RR t (d + 1) 264 [(2, (-7)), (0, a1)] v Q := wp_sound (K := k_264) (cut := []) (f := 8) (cb := false) rfl h
set_option maxRecDepth 100000 in
theorem w_266_s43 {t : Int} {d : Nat} {v : Mem} {Q : Int → Mem → Prop} (h : (((1 : Int) = 0 → ((-128 ≤ (1 : Int) ∧ (1 : Int) < 128) ∧ Q 1 v)) ∧ (¬ (1 : Int) = 0 → ((-128 ≤ (0 : Int) ∧ (0 : Int) < 128) ∧ Q 0 v)))) : RR t d 266 [(2, (-45))] v Q := wp_sound (K := k_266) (cut := []) (f := 10) (cb := false) rfl h
set_option maxRecDepth 100000 in
theorem s_266_s43 {t : Int} {d : Nat} {v : Mem} {Q : Int → Mem → Prop} (h : Q 0 v) : RR t d 266 [(2, (-45))] v Q := w_266_s43 ⟨fun c => absurd c (by decide), fun _ => ⟨⟨by decide, by decide⟩, h⟩⟩
set_option maxRecDepth 100000 in
theorem w_262_s43 {t : Int} {d : Nat} {v : Mem} {Q : Int → Mem → Prop} (h : (RR t d 266 [(2, (-45))] v (fun x1 v1 => Q (ishr 4 x1) v1))) : RR t (d + 1) 262 [(2, (-45))] v Q := wp_sound (K := k_262) (cut := []) (f := 10) (cb := false) rfl h
set_option maxRecDepth 100000 in
theorem s_262_s43 {t : Int} {d : Nat} {v : Mem} {Q : Int → Mem → Prop} (h : Q 4 v) : RR t (d + 1) 262 [(2, (-45))] v Q := w_262_s43 (s_266_s43 h)
set_option maxRecDepth 100000 in
theorem w_267_s43 {t : Int} {d : Nat} {v : Mem} {Q : Int → Mem → Prop} (h : (((1 : Int) = 0 → (((0 : Int) = 0 ∨ (0 : Int) = 1) ∧ Q 0 v)) ∧ (¬ (1 : Int) = 0 → (((0 : Int) = 0 → (((1 : Int) = 0 ∨ (1 : Int) = 1) ∧ Q 1 v)) ∧ (¬ (0 : Int) = 0 → (((0 : Int) = 0 ∨ (0 : Int) = 1) ∧ Q 0 v)))))) : RR t d 267 [(2, (-45))] v Q := wp_sound (K := k_267) (cut := []) (f := 12) (cb := false) rfl h
set_option maxRecDepth 100000 in
theorem s_267_s43 {t : Int} {d : Nat} {v : Mem} {Q : Int → Mem → Prop} (h : Q 1 v) : RR t d 267 [(2, (-45))] v Q := w_267_s43 ⟨fun c => absurd c (by decide), fun _ => ⟨fun _ => ⟨Or.inr rfl, h⟩, fun c => absurd (by decide) c⟩⟩
set_option maxRecDepth 100000 in
theorem w_269_s87 {t : Int} {d : Nat} {a1 : Int} {v : Mem} {Q : Int → Mem → Prop} (h : (RR t d 268 [(0, a1), (0, 4)] v (fun x1 v1 => ((0 ≤ a1 ∧ a1 < 4) ∧ ((0 ≤ (w16u (iand (List.getD (sB.getD 43 []) (Int.toNat a1) 0) 255)) ∧ (w16u (iand (List.getD (sB.getD 43 []) (Int.toNat a1) 0) 255)) < 65536) ∧ Q (w16u (iand (List.getD (sB.getD 43 []) (Int.toNat a1) 0) 255)) v1))))) : RR t (d + 1) 269 [(2, (-89)), (0, a1)] v Q := wp_sound (K := k_269) (cut := []) (f := 14) (cb := false) rfl h
set_option maxRecDepth 100000 in
theorem s_269_s87 {t : Int} {d : Nat} {a1 : Int} {v : Mem} {Q : Int → Mem → Prop} (h : ((a1 < 0 → False) ∧ (¬ a1 < 0 → ((a1 < 4 → ((0 ≤ (w16u (iand (List.getD (sB.getD 43 []) (Int.toNat a1) 0) 255)) ∧ (w16u (iand (List.getD (sB.getD 43 []) (Int.toNat a1) 0) 255)) < 65536) ∧ Q (w16u (iand (List.getD (sB.getD 43 []) (Int.toNat a1) 0) 255)) v)) ∧ (¬ a1 < 4 → False))))) : RR t (d + 2) 269 [(2, (-89)), (0, a1)] v Q := w_269_s87 (s_268 ⟨fun c1 => (h.1 c1), fun c1 => ⟨fun c2 => ⟨⟨by omega, by omega⟩, ⟨((h.2 c1).1 c2).1, ((h.2 c1).1 c2).2⟩⟩, fun c2 => ((h.2 c1).2 c2)⟩⟩)
set_option maxRecDepth 100000 in
theorem w_263_s43 {t : Int} {d : Nat} {a1 : Int} {v : Mem} {Q : Int → Mem → Prop} (h : (RR t d 267 [(2, (-45))] v (fun x1 v1 => ((x1 = 0 → False) ∧ (¬ x1 = 0 → (RR t d 269 [(2, (-89)), (0, a1)] v1 (fun x2 v2 => ((0 ≤ x2 ∧ x2 < 65536) ∧ Q x2 v2)))))))) : RR t (d + 1) 263 [(2, (-45)), (0, a1)] v Q := wp_sound (K := k_263) (cut := []) (f := 16) (cb := false) rfl h
set_option maxRecDepth 100000 in
theorem s_263_s43 {t : Int} {d : Nat} {a1 : Int} {v : Mem} {Q : Int → Mem → Prop} (h : ((a1 < 0 → False) ∧ (¬ a1 < 0 → ((a1 < 4 → ((0 ≤ (w16u (iand (List.getD (sB.getD 43 []) (Int.toNat a1) 0) 255)) ∧ (w16u (iand (List.getD (sB.getD 43 []) (Int.toNat a1) 0) 255)) < 65536) ∧ ((0 ≤ (w16u (iand (List.getD (sB.getD 43 []) (Int.toNat a1) 0) 255)) ∧ (w16u (iand (List.getD (sB.getD 43 []) (Int.toNat a1) 0) 255)) < 65536) ∧ Q (w16u (iand (List.getD (sB.getD 43 []) (Int.toNat a1) 0) 255)) v))) ∧ (¬ a1 < 4 → False))))) : RR t (d + 3) 263 [(2, (-45)), (0, a1)] v Q := w_263_s43 (s_267_s43 ⟨fun c => absurd c (by decide), fun _ => s_269_s87 ⟨fun c1 => (h.1 c1), fun c1 => ⟨fun c2 => ⟨((h.2 c1).1 c2).1, ⟨((h.2 c1).1 c2).2.1, ((h.2 c1).1 c2).2.2⟩⟩, fun c2 => ((h.2 c1).2 c2)⟩⟩⟩)
theorem p_263_s43 {t : Int} {d : Nat} {a1 : Int} {v : Mem} {Q : Int → Mem → Prop} (h : (0 ≤ a1 ∧ a1 < 4) ∧ Q (List.getD (sB.getD 43 []) (Int.toNat a1) 0) v) : RR t (d + 3) 263 [(2, (-45)), (0, a1)] v Q := by
  have e := chrE 43 (Int.toNat a1)
  have e2 := chr_r 43 (Int.toNat a1)
  refine s_263_s43 ?_
  simp only [e]
  exact ⟨fun c => absurd h.1.1 (by omega), fun c => ⟨fun c2 => ⟨⟨e2.1, by omega⟩, ⟨e2.1, by omega⟩, h.2⟩, fun c2 => absurd h.1.2 c2⟩⟩
set_option maxRecDepth 100000 in
theorem w_266_s6 {t : Int} {d : Nat} {v : Mem} {Q : Int → Mem → Prop} (h : (((1 : Int) = 0 → ((-128 ≤ (1 : Int) ∧ (1 : Int) < 128) ∧ Q 1 v)) ∧ (¬ (1 : Int) = 0 → ((-128 ≤ (0 : Int) ∧ (0 : Int) < 128) ∧ Q 0 v)))) : RR t d 266 [(2, (-8))] v Q := wp_sound (K := k_266) (cut := []) (f := 10) (cb := false) rfl h
set_option maxRecDepth 100000 in
theorem s_266_s6 {t : Int} {d : Nat} {v : Mem} {Q : Int → Mem → Prop} (h : Q 0 v) : RR t d 266 [(2, (-8))] v Q := w_266_s6 ⟨fun c => absurd c (by decide), fun _ => ⟨⟨by decide, by decide⟩, h⟩⟩
set_option maxRecDepth 100000 in
theorem w_262_s6 {t : Int} {d : Nat} {v : Mem} {Q : Int → Mem → Prop} (h : (RR t d 266 [(2, (-8))] v (fun x1 v1 => Q (ishr 2 x1) v1))) : RR t (d + 1) 262 [(2, (-8))] v Q := wp_sound (K := k_262) (cut := []) (f := 10) (cb := false) rfl h
set_option maxRecDepth 100000 in
theorem s_262_s6 {t : Int} {d : Nat} {v : Mem} {Q : Int → Mem → Prop} (h : Q 2 v) : RR t (d + 1) 262 [(2, (-8))] v Q := w_262_s6 (s_266_s6 h)
set_option maxRecDepth 100000 in
theorem w_267_s6 {t : Int} {d : Nat} {v : Mem} {Q : Int → Mem → Prop} (h : (((1 : Int) = 0 → (((0 : Int) = 0 ∨ (0 : Int) = 1) ∧ Q 0 v)) ∧ (¬ (1 : Int) = 0 → (((0 : Int) = 0 → (((1 : Int) = 0 ∨ (1 : Int) = 1) ∧ Q 1 v)) ∧ (¬ (0 : Int) = 0 → (((0 : Int) = 0 ∨ (0 : Int) = 1) ∧ Q 0 v)))))) : RR t d 267 [(2, (-8))] v Q := wp_sound (K := k_267) (cut := []) (f := 12) (cb := false) rfl h
set_option maxRecDepth 100000 in
theorem s_267_s6 {t : Int} {d : Nat} {v : Mem} {Q : Int → Mem → Prop} (h : Q 1 v) : RR t d 267 [(2, (-8))] v Q := w_267_s6 ⟨fun c => absurd c (by decide), fun _ => ⟨fun _ => ⟨Or.inr rfl, h⟩, fun c => absurd (by decide) c⟩⟩
set_option maxRecDepth 100000 in
theorem w_269_s50 {t : Int} {d : Nat} {a1 : Int} {v : Mem} {Q : Int → Mem → Prop} (h : (RR t d 268 [(0, a1), (0, 2)] v (fun x1 v1 => ((0 ≤ a1 ∧ a1 < 2) ∧ ((0 ≤ (w16u (iand (List.getD (sB.getD 6 []) (Int.toNat a1) 0) 255)) ∧ (w16u (iand (List.getD (sB.getD 6 []) (Int.toNat a1) 0) 255)) < 65536) ∧ Q (w16u (iand (List.getD (sB.getD 6 []) (Int.toNat a1) 0) 255)) v1))))) : RR t (d + 1) 269 [(2, (-52)), (0, a1)] v Q := wp_sound (K := k_269) (cut := []) (f := 14) (cb := false) rfl h
set_option maxRecDepth 100000 in
theorem s_269_s50 {t : Int} {d : Nat} {a1 : Int} {v : Mem} {Q : Int → Mem → Prop} (h : ((a1 < 0 → False) ∧ (¬ a1 < 0 → ((a1 < 2 → ((0 ≤ (w16u (iand (List.getD (sB.getD 6 []) (Int.toNat a1) 0) 255)) ∧ (w16u (iand (List.getD (sB.getD 6 []) (Int.toNat a1) 0) 255)) < 65536) ∧ Q (w16u (iand (List.getD (sB.getD 6 []) (Int.toNat a1) 0) 255)) v)) ∧ (¬ a1 < 2 → False))))) : RR t (d + 2) 269 [(2, (-52)), (0, a1)] v Q := w_269_s50 (s_268 ⟨fun c1 => (h.1 c1), fun c1 => ⟨fun c2 => ⟨⟨by omega, by omega⟩, ⟨((h.2 c1).1 c2).1, ((h.2 c1).1 c2).2⟩⟩, fun c2 => ((h.2 c1).2 c2)⟩⟩)
set_option maxRecDepth 100000 in
theorem w_263_s6 {t : Int} {d : Nat} {a1 : Int} {v : Mem} {Q : Int → Mem → Prop} (h : (RR t d 267 [(2, (-8))] v (fun x1 v1 => ((x1 = 0 → False) ∧ (¬ x1 = 0 → (RR t d 269 [(2, (-52)), (0, a1)] v1 (fun x2 v2 => ((0 ≤ x2 ∧ x2 < 65536) ∧ Q x2 v2)))))))) : RR t (d + 1) 263 [(2, (-8)), (0, a1)] v Q := wp_sound (K := k_263) (cut := []) (f := 16) (cb := false) rfl h
set_option maxRecDepth 100000 in
theorem s_263_s6 {t : Int} {d : Nat} {a1 : Int} {v : Mem} {Q : Int → Mem → Prop} (h : ((a1 < 0 → False) ∧ (¬ a1 < 0 → ((a1 < 2 → ((0 ≤ (w16u (iand (List.getD (sB.getD 6 []) (Int.toNat a1) 0) 255)) ∧ (w16u (iand (List.getD (sB.getD 6 []) (Int.toNat a1) 0) 255)) < 65536) ∧ ((0 ≤ (w16u (iand (List.getD (sB.getD 6 []) (Int.toNat a1) 0) 255)) ∧ (w16u (iand (List.getD (sB.getD 6 []) (Int.toNat a1) 0) 255)) < 65536) ∧ Q (w16u (iand (List.getD (sB.getD 6 []) (Int.toNat a1) 0) 255)) v))) ∧ (¬ a1 < 2 → False))))) : RR t (d + 3) 263 [(2, (-8)), (0, a1)] v Q := w_263_s6 (s_267_s6 ⟨fun c => absurd c (by decide), fun _ => s_269_s50 ⟨fun c1 => (h.1 c1), fun c1 => ⟨fun c2 => ⟨((h.2 c1).1 c2).1, ⟨((h.2 c1).1 c2).2.1, ((h.2 c1).1 c2).2.2⟩⟩, fun c2 => ((h.2 c1).2 c2)⟩⟩⟩)
theorem p_263_s6 {t : Int} {d : Nat} {a1 : Int} {v : Mem} {Q : Int → Mem → Prop} (h : (0 ≤ a1 ∧ a1 < 2) ∧ Q (List.getD (sB.getD 6 []) (Int.toNat a1) 0) v) : RR t (d + 3) 263 [(2, (-8)), (0, a1)] v Q := by
  have e := chrE 6 (Int.toNat a1)
  have e2 := chr_r 6 (Int.toNat a1)
  refine s_263_s6 ?_
  simp only [e]
  exact ⟨fun c => absurd h.1.1 (by omega), fun c => ⟨fun c2 => ⟨⟨e2.1, by omega⟩, ⟨e2.1, by omega⟩, h.2⟩, fun c2 => absurd h.1.2 c2⟩⟩
set_option maxRecDepth 100000 in
theorem w_266_s7 {t : Int} {d : Nat} {v : Mem} {Q : Int → Mem → Prop} (h : (((1 : Int) = 0 → ((-128 ≤ (1 : Int) ∧ (1 : Int) < 128) ∧ Q 1 v)) ∧ (¬ (1 : Int) = 0 → ((-128 ≤ (0 : Int) ∧ (0 : Int) < 128) ∧ Q 0 v)))) : RR t d 266 [(2, (-9))] v Q := wp_sound (K := k_266) (cut := []) (f := 10) (cb := false) rfl h
set_option maxRecDepth 100000 in
theorem s_266_s7 {t : Int} {d : Nat} {v : Mem} {Q : Int → Mem → Prop} (h : Q 0 v) : RR t d 266 [(2, (-9))] v Q := w_266_s7 ⟨fun c => absurd c (by decide), fun _ => ⟨⟨by decide, by decide⟩, h⟩⟩
set_option maxRecDepth 100000 in
theorem w_262_s7 {t : Int} {d : Nat} {v : Mem} {Q : Int → Mem → Prop} (h : (RR t d 266 [(2, (-9))] v (fun x1 v1 => Q (ishr 1 x1) v1))) : RR t (d + 1) 262 [(2, (-9))] v Q := wp_sound (K := k_262) (cut := []) (f := 10) (cb := false) rfl h
set_option maxRecDepth 100000 in
theorem s_262_s7 {t : Int} {d : Nat} {v : Mem} {Q : Int → Mem → Prop} (h : Q 1 v) : RR t (d + 1) 262 [(2, (-9))] v Q := w_262_s7 (s_266_s7 h)
set_option maxRecDepth 100000 in
theorem w_267_s7 {t : Int} {d : Nat} {v : Mem} {Q : Int → Mem → Prop} (h : (((1 : Int) = 0 → (((0 : Int) = 0 ∨ (0 : Int) = 1) ∧ Q 0 v)) ∧ (¬ (1 : Int) = 0 → (((0 : Int) = 0 → (((1 : Int) = 0 ∨ (1 : Int) = 1) ∧ Q 1 v)) ∧ (¬ (0 : Int) = 0 → (((0 : Int) = 0 ∨ (0 : Int) = 1) ∧ Q 0 v)))))) : RR t d 267 [(2, (-9))] v Q := wp_sound (K := k_267) (cut := []) (f := 12) (cb := false) rfl h
set_option maxRecDepth 100000 in
theorem s_267_s7 {t : Int} {d : Nat} {v : Mem} {Q : Int → Mem → Prop} (h : Q 1 v) : RR t d 267 [(2, (-9))] v Q := w_267_s7 ⟨fun c => absurd c (by decide), fun _ => ⟨fun _ => ⟨Or.inr rfl, h⟩, fun c => absurd (by decide) c⟩⟩
set_option maxRecDepth 100000 in
theorem w_269_s51 {t : Int} {d : Nat} {a1 : Int} {v : Mem} {Q : Int → Mem → Prop} (h : (RR t d 268 [(0, a1), (0, 1)] v (fun x1 v1 => ((0 ≤ a1 ∧ a1 < 1) ∧ ((0 ≤ (w16u (iand (List.getD (sB.getD 7 []) (Int.toNat a1) 0) 255)) ∧ (w16u (iand (List.getD (sB.getD 7 []) (Int.toNat a1) 0) 255)) < 65536) ∧ Q (w16u (iand (List.getD (sB.getD 7 []) (Int.toNat a1) 0) 255)) v1))))) : RR t (d + 1) 269 [(2, (-53)), (0, a1)] v Q := wp_sound (K := k_269) (cut := []) (f := 14) (cb := false) rfl h
set_option maxRecDepth 100000 in
theorem s_269_s51 {t : Int} {d : Nat} {a1 : Int} {v : Mem} {Q : Int → Mem → Prop} (h : ((a1 < 0 → False) ∧ (¬ a1 < 0 → ((a1 < 1 → ((0 ≤ (w16u (iand (List.getD (sB.getD 7 []) (Int.toNat a1) 0) 255)) ∧ (w16u (iand (List.getD (sB.getD 7 []) (Int.toNat a1) 0) 255)) < 65536) ∧ Q (w16u (iand (List.getD (sB.getD 7 []) (Int.toNat a1) 0) 255)) v)) ∧ (¬ a1 < 1 → False))))) : RR t (d + 2) 269 [(2, (-53)), (0, a1)] v Q := w_269_s51 (s_268 ⟨fun c1 => (h.1 c1), fun c1 => ⟨fun c2 => ⟨⟨by omega, by omega⟩, ⟨((h.2 c1).1 c2).1, ((h.2 c1).1 c2).2⟩⟩, fun c2 => ((h.2 c1).2 c2)⟩⟩)
set_option maxRecDepth 100000 in
theorem w_263_s7 {t : Int} {d : Nat} {a1 : Int} {v : Mem} {Q : Int → Mem → Prop} (h : (RR t d 267 [(2, (-9))] v (fun x1 v1 => ((x1 = 0 → False) ∧ (¬ x1 = 0 → (RR t d 269 [(2, (-53)), (0, a1)] v1 (fun x2 v2 => ((0 ≤ x2 ∧ x2 < 65536) ∧ Q x2 v2)))))))) : RR t (d + 1) 263 [(2, (-9)), (0, a1)] v Q := wp_sound (K := k_263) (cut := []) (f := 16) (cb := false) rfl h
set_option maxRecDepth 100000 in
theorem s_263_s7 {t : Int} {d : Nat} {a1 : Int} {v : Mem} {Q : Int → Mem → Prop} (h : ((a1 < 0 → False) ∧ (¬ a1 < 0 → ((a1 < 1 → ((0 ≤ (w16u (iand (List.getD (sB.getD 7 []) (Int.toNat a1) 0) 255)) ∧ (w16u (iand (List.getD (sB.getD 7 []) (Int.toNat a1) 0) 255)) < 65536) ∧ ((0 ≤ (w16u (iand (List.getD (sB.getD 7 []) (Int.toNat a1) 0) 255)) ∧ (w16u (iand (List.getD (sB.getD 7 []) (Int.toNat a1) 0) 255)) < 65536) ∧ Q (w16u (iand (List.getD (sB.getD 7 []) (Int.toNat a1) 0) 255)) v))) ∧ (¬ a1 < 1 → False))))) : RR t (d + 3) 263 [(2, (-9)), (0, a1)] v Q := w_263_s7 (s_267_s7 ⟨fun c => absurd c (by decide), fun _ => s_269_s51 ⟨fun c1 => (h.1 c1), fun c1 => ⟨fun c2 => ⟨((h.2 c1).1 c2).1, ⟨((h.2 c1).1 c2).2.1, ((h.2 c1).1 c2).2.2⟩⟩, fun c2 => ((h.2 c1).2 c2)⟩⟩⟩)
theorem p_263_s7 {t : Int} {d : Nat} {a1 : Int} {v : Mem} {Q : Int → Mem → Prop} (h : (0 ≤ a1 ∧ a1 < 1) ∧ Q (List.getD (sB.getD 7 []) (Int.toNat a1) 0) v) : RR t (d + 3) 263 [(2, (-9)), (0, a1)] v Q := by
  have e := chrE 7 (Int.toNat a1)
  have e2 := chr_r 7 (Int.toNat a1)
  refine s_263_s7 ?_
  simp only [e]
  exact ⟨fun c => absurd h.1.1 (by omega), fun c => ⟨fun c2 => ⟨⟨e2.1, by omega⟩, ⟨e2.1, by omega⟩, h.2⟩, fun c2 => absurd h.1.2 c2⟩⟩
set_option maxRecDepth 100000 in
theorem w_266_s8 {t : Int} {d : Nat} {v : Mem} {Q : Int → Mem → Prop} (h : (((1 : Int) = 0 → ((-128 ≤ (1 : Int) ∧ (1 : Int) < 128) ∧ Q 1 v)) ∧ (¬ (1 : Int) = 0 → ((-128 ≤ (0 : Int) ∧ (0 : Int) < 128) ∧ Q 0 v)))) : RR t d 266 [(2, (-10))] v Q := wp_sound (K := k_266) (cut := []) (f := 10) (cb := false) rfl h
set_option maxRecDepth 100000 in
theorem s_266_s8 {t : Int} {d : Nat} {v : Mem} {Q : Int → Mem → Prop} (h : Q 0 v) : RR t d 266 [(2, (-10))] v Q := w_266_s8 ⟨fun c => absurd c (by decide), fun _ => ⟨⟨by decide, by decide⟩, h⟩⟩
set_option maxRecDepth 100000 in
theorem w_262_s8 {t : Int} {d : Nat} {v : Mem} {Q : Int → Mem → Prop} (h : (RR t d 266 [(2, (-10))] v (fun x1 v1 => Q (ishr 1 x1) v1))) : RR t (d + 1) 262 [(2, (-10))] v Q := wp_sound (K := k_262) (cut := []) (f := 10) (cb := false) rfl h
set_option maxRecDepth 100000 in
theorem s_262_s8 {t : Int} {d : Nat} {v : Mem} {Q : Int → Mem → Prop} (h : Q 1 v) : RR t (d + 1) 262 [(2, (-10))] v Q := w_262_s8 (s_266_s8 h)
set_option maxRecDepth 100000 in
theorem w_267_s8 {t : Int} {d : Nat} {v : Mem} {Q : Int → Mem → Prop} (h : (((1 : Int) = 0 → (((0 : Int) = 0 ∨ (0 : Int) = 1) ∧ Q 0 v)) ∧ (¬ (1 : Int) = 0 → (((0 : Int) = 0 → (((1 : Int) = 0 ∨ (1 : Int) = 1) ∧ Q 1 v)) ∧ (¬ (0 : Int) = 0 → (((0 : Int) = 0 ∨ (0 : Int) = 1) ∧ Q 0 v)))))) : RR t d 267 [(2, (-10))] v Q := wp_sound (K := k_267) (cut := []) (f := 12) (cb := false) rfl h
set_option maxRecDepth 100000 in
theorem s_267_s8 {t : Int} {d : Nat} {v : Mem} {Q : Int → Mem → Prop} (h : Q 1 v) : RR t d 267 [(2, (-10))] v Q := w_267_s8 ⟨fun c => absurd c (by decide), fun _ => ⟨fun _ => ⟨Or.inr rfl, h⟩, fun c => absurd (by decide) c⟩⟩
set_option maxRecDepth 100000 in
theorem w_269_s52 {t : Int} {d : Nat} {a1 : Int} {v : Mem} {Q : Int → Mem → Prop} (h : (RR t d 268 [(0, a1), (0, 1)] v (fun x1 v1 => ((0 ≤ a1 ∧ a1 < 1) ∧ ((0 ≤ (w16u (iand (List.getD (sB.getD 8 []) (Int.toNat a1) 0) 255)) ∧ (w16u (iand (List.getD (sB.getD 8 []) (Int.toNat a1) 0) 255)) < 65536) ∧ Q (w16u (iand (List.getD (sB.getD 8 []) (Int.toNat a1) 0) 255)) v1))))) : RR t (d + 1) 269 [(2, (-54)), (0, a1)] v Q := wp_sound (K := k_269) (cut := []) (f := 14) (cb := false) rfl h
set_option maxRecDepth 100000 in
theorem s_269_s52 {t : Int} {d : Nat} {a1 : Int} {v : Mem} {Q : Int → Mem → Prop} (h : ((a1 < 0 → False) ∧ (¬ a1 < 0 → ((a1 < 1 → ((0 ≤ (w16u (iand (List.getD (sB.getD 8 []) (Int.toNat a1) 0) 255)) ∧ (w16u (iand (List.getD (sB.getD 8 []) (Int.toNat a1) 0) 255)) < 65536) ∧ Q (w16u (iand (List.getD (sB.getD 8 []) (Int.toNat a1) 0) 255)) v)) ∧ (¬ a1 < 1 → False))))) : RR t (d + 2) 269 [(2, (-54)), (0, a1)] v Q := w_269_s52 (s_268 ⟨fun c1 => (h.1 c1), fun c1 => ⟨fun c2 => ⟨⟨by omega, by omega⟩, ⟨((h.2 c1).1 c2).1, ((h.2 c1).1 c2).2⟩⟩, fun c2 => ((h.2 c1).2 c2)⟩⟩)
set_option maxRecDepth 100000 in
theorem w_263_s8 {t : Int} {d : Nat} {a1 : Int} {v : Mem} {Q : Int → Mem → Prop} (h : (RR t d 267 [(2, (-10))] v (fun x1 v1 => ((x1 = 0 → False) ∧ (¬ x1 = 0 → (RR t d 269 [(2, (-54)), (0, a1)] v1 (fun x2 v2 => ((0 ≤ x2 ∧ x2 < 65536) ∧ Q x2 v2)))))))) : RR t (d + 1) 263 [(2, (-10)), (0, a1)] v Q := wp_sound (K := k_263) (cut := []) (f := 16) (cb := false) rfl h
set_option maxRecDepth 100000 in
theorem s_263_s8 {t : Int} {d : Nat} {a1 : Int} {v : Mem} {Q : Int → Mem → Prop} (h : ((a1 < 0 → False) ∧ (¬ a1 < 0 → ((a1 < 1 → ((0 ≤ (w16u (iand (List.getD (sB.getD 8 []) (Int.toNat a1) 0) 255)) ∧ (w16u (iand (List.getD (sB.getD 8 []) (Int.toNat a1) 0) 255)) < 65536) ∧ ((0 ≤ (w16u (iand (List.getD (sB.getD 8 []) (Int.toNat a1) 0) 255)) ∧ (w16u (iand (List.getD (sB.getD 8 []) (Int.toNat a1) 0) 255)) < 65536) ∧ Q (w16u (iand (List.getD (sB.getD 8 []) (Int.toNat a1) 0) 255)) v))) ∧ (¬ a1 < 1 → False))))) : RR t (d + 3) 263 [(2, (-10)), (0, a1)] v Q := w_263_s8 (s_267_s8 ⟨fun c => absurd c (by decide), fun _ => s_269_s52 ⟨fun c1 => (h.1 c1), fun c1 => ⟨fun c2 => ⟨((h.2 c1).1 c2).1, ⟨((h.2 c1).1 c2).2.1, ((h.2 c1).1 c2).2.2⟩⟩, fun c2 => ((h.2 c1).2 c2)⟩⟩⟩)
theorem p_263_s8 {t : Int} {d : Nat} {a1 : Int} {v : Mem} {Q : Int → Mem → Prop} (h : (0 ≤ a1 ∧ a1 < 1) ∧ Q (List.getD (sB.getD 8 []) (Int.toNat a1) 0) v) : RR t (d + 3) 263 [(2, (-10)), (0, a1)] v Q := by
  have e := chrE 8 (Int.toNat a1)
  have e2 := chr_r 8 (Int.toNat a1)
  refine s_263_s8 ?_
  simp only [e]
  exact ⟨fun c => absurd h.1.1 (by omega), fun c => ⟨fun c2 => ⟨⟨e2.1, by omega⟩, ⟨e2.1, by omega⟩, h.2⟩, fun c2 => absurd h.1.2 c2⟩⟩
set_option maxRecDepth 100000 in
theorem w_266_s9 {t : Int} {d : Nat} {v : Mem} {Q : Int → Mem → Prop} (h : (((1 : Int) = 0 → ((-128 ≤ (1 : Int) ∧ (1 : Int) < 128) ∧ Q 1 v)) ∧ (¬ (1 : Int) = 0 → ((-128 ≤ (0 : Int) ∧ (0 : Int) < 128) ∧ Q 0 v)))) : RR t d 266 [(2, (-11))] v Q := wp_sound (K := k_266) (cut := []) (f := 10) (cb := false) rfl h
set_option maxRecDepth 100000 in
theorem s_266_s9 {t : Int} {d : Nat} {v : Mem} {Q : Int → Mem → Prop} (h : Q 0 v) : RR t d 266 [(2, (-11))] v Q := w_266_s9 ⟨fun c => absurd c (by decide), fun _ => ⟨⟨by decide, by decide⟩, h⟩⟩
set_option maxRecDepth 100000 in
theorem w_262_s9 {t : Int} {d : Nat} {v : Mem} {Q : Int → Mem → Prop} (h : (RR t d 266 [(2, (-11))] v (fun x1 v1 => Q (ishr 1 x1) v1))) : RR t (d + 1) 262 [(2, (-11))] v Q := wp_sound (K := k_262) (cut := []) (f := 10) (cb := false) rfl h
set_option maxRecDepth 100000 in
theorem s_262_s9 {t : Int} {d : Nat} {v : Mem} {Q : Int → Mem → Prop} (h : Q 1 v) : RR t (d + 1) 262 [(2, (-11))] v Q := w_262_s9 (s_266_s9 h)
set_option maxRecDepth 100000 in
theorem w_267_s9 {t : Int} {d : Nat} {v : Mem} {Q : Int → Mem → Prop} (h : (((1 : Int) = 0 → (((0 : Int) = 0 ∨ (0 : Int) = 1) ∧ Q 0 v)) ∧ (¬ (1 : Int) = 0 → (((0 : Int) = 0 → (((1 : Int) = 0 ∨ (1 : Int) = 1) ∧ Q 1 v)) ∧ (¬ (0 : Int) = 0 → (((0 : Int) = 0 ∨ (0 : Int) = 1) ∧ Q 0 v)))))) : RR t d 267 [(2, (-11))] v Q := wp_sound (K := k_267) (cut := []) (f := 12) (cb := false) rfl h
set_option maxRecDepth 100000 in
theorem s_267_s9 {t : Int} {d : Nat} {v : Mem} {Q : Int → Mem → Prop} (h : Q 1 v) : RR t d 267 [(2, (-11))] v Q := w_267_s9 ⟨fun c => absurd c (by decide), fun _ => ⟨fun _ => ⟨Or.inr rfl, h⟩, fun c => absurd (by decide) c⟩⟩
set_option maxRecDepth 100000 in
theorem w_269_s53 {t : Int} {d : Nat} {a1 : Int} {v : Mem} {Q : Int → Mem → Prop} (h : (RR t d 268 [(0, a1), (0, 1)] v (fun x1 v1 => ((0 ≤ a1 ∧ a1 < 1) ∧ ((0 ≤ (w16u (iand (List.getD (sB.getD 9 []) (Int.toNat a1) 0) 255)) ∧ (w16u (iand (List.getD (sB.getD 9 []) (Int.toNat a1) 0) 255)) < 65536) ∧ Q (w16u (iand (List.getD (sB.getD 9 []) (Int.toNat a1) 0) 255)) v1))))) : RR t (d + 1) 269 [(2, (-55)), (0, a1)] v Q := wp_sound (K := k_269) (cut := []) (f := 14) (cb := false) rfl h
set_option maxRecDepth 100000 in
theorem s_269_s53 {t : Int} {d : Nat} {a1 : Int} {v : Mem} {Q : Int → Mem → Prop} (h : ((a1 < 0 → False) ∧ (¬ a1 < 0 → ((a1 < 1 → ((0 ≤ (w16u (iand (List.getD (sB.getD 9 []) (Int.toNat a1) 0) 255)) ∧ (w16u (iand (List.getD (sB.getD 9 []) (Int.toNat a1) 0) 255)) < 65536) ∧ Q (w16u (iand (List.getD (sB.getD 9 []) (Int.toNat a1) 0) 255)) v)) ∧ (¬ a1 < 1 → False))))) : RR t (d + 2) 269 [(2, (-55)), (0, a1)] v Q := w_269_s53 (s_268 ⟨fun c1 => (h.1 c1), fun c1 => ⟨fun c2 => ⟨⟨by omega, by omega⟩, ⟨((h.2 c1).1 c2).1, ((h.2 c1).1 c2).2⟩⟩, fun c2 => ((h.2 c1).2 c2)⟩⟩)
set_option maxRecDepth 100000 in
theorem w_263_s9 {t : Int} {d : Nat} {a1 : Int} {v : Mem} {Q : Int → Mem → Prop} (h : (RR t d 267 [(2, (-11))] v (fun x1 v1 => ((x1 = 0 → False) ∧ (¬ x1 = 0 → (RR t d 269 [(2, (-55)), (0, a1)] v1 (fun x2 v2 => ((0 ≤ x2 ∧ x2 < 65536) ∧ Q x2 v2)))))))) : RR t (d + 1) 263 [(2, (-11)), (0, a1)] v Q := wp_sound (K := k_263) (cut := []) (f := 16) (cb := false) rfl h
set_option maxRecDepth 100000 in
theorem s_263_s9 {t : Int} {d : Nat} {a1 : Int} {v : Mem} {Q : Int → Mem → Prop} (h : ((a1 < 0 → False) ∧ (¬ a1 < 0 → ((a1 < 1 → ((0 ≤ (w16u (iand (List.getD (sB.getD 9 []) (Int.toNat a1) 0) 255)) ∧ (w16u (iand (List.getD (sB.getD 9 []) (Int.toNat a1) 0) 255)) < 65536) ∧ ((0 ≤ (w16u (iand (List.getD (sB.getD 9 []) (Int.toNat a1) 0) 255)) ∧ (w16u (iand (List.getD (sB.getD 9 []) (Int.toNat a1) 0) 255)) < 65536) ∧ Q (w16u (iand (List.getD (sB.getD 9 []) (Int.toNat a1) 0) 255)) v))) ∧ (¬ a1 < 1 → False))))) : RR t (d + 3) 263 [(2, (-11)), (0, a1)] v Q := w_263_s9 (s_267_s9 ⟨fun c => absurd c (by decide), fun _ => s_269_s53 ⟨fun c1 => (h.1 c1), fun c1 => ⟨fun c2 => ⟨((h.2 c1).1 c2).1, ⟨((h.2 c1).1 c2).2.1, ((h.2 c1).1 c2).2.2⟩⟩, fun c2 => ((h.2 c1).2 c2)⟩⟩⟩)
theorem p_263_s9 {t : Int} {d : Nat} {a1 : Int} {v : Mem} {Q : Int → Mem → Prop} (h : (0 ≤ a1 ∧ a1 < 1) ∧ Q (List.getD (sB.getD 9 []) (Int.toNat a1) 0) v) : RR t (d + 3) 263 [(2, (-11)), (0, a1)] v Q := by
  have e := chrE 9 (Int.toNat a1)
  have e2 := chr_r 9 (Int.toNat a1)
  refine s_263_s9 ?_
  simp only [e]
  exact ⟨fun c => absurd h.1.1 (by omega), fun c => ⟨fun c2 => ⟨⟨e2.1, by omega⟩, ⟨e2.1, by omega⟩, h.2⟩, fun c2 => absurd h.1.2 c2⟩⟩
set_option maxRecDepth 100000 in
theorem w_266_s10 {t : Int} {d : Nat} {v : Mem} {Q : Int → Mem → Prop} (h : (((1 : Int) = 0 → ((-128 ≤ (1 : Int) ∧ (1 : Int) < 128) ∧ Q 1 v)) ∧ (¬ (1 : Int) = 0 → ((-128 ≤ (0 : Int) ∧ (0 : Int) < 128) ∧ Q 0 v)))) : RR t d 266 [(2, (-12))] v Q := wp_sound (K := k_266) (cut := []) (f := 10) (cb := false) rfl h
set_option maxRecDepth 100000 in
theorem s_266_s10 {t : Int} {d : Nat} {v : Mem} {Q : Int → Mem → Prop} (h : Q 0 v) : RR t d 266 [(2, (-12))] v Q := w_266_s10 ⟨fun c => absurd c (by decide), fun _ => ⟨⟨by decide, by decide⟩, h⟩⟩
set_option maxRecDepth 100000 in
theorem w_262_s10 {t : Int} {d : Nat} {v : Mem} {Q : Int → Mem → Prop} (h : (RR t d 266 [(2, (-12))] v (fun x1 v1 => Q (ishr 3 x1) v1))) : RR t (d + 1) 262 [(2, (-12))] v Q := wp_sound (K := k_262) (cut := []) (f := 10) (cb := false) rfl h
set_option maxRecDepth 100000 in
theorem s_262_s10 {t : Int} {d : Nat} {v : Mem} {Q : Int → Mem → Prop} (h : Q 3 v) : RR t (d + 1) 262 [(2, (-12))] v Q := w_262_s10 (s_266_s10 h)
set_option maxRecDepth 100000 in
theorem w_267_s10 {t : Int} {d : Nat} {v : Mem} {Q : Int → Mem → Prop} (h : (((1 : Int) = 0 → (((0 : Int) = 0 ∨ (0 : Int) = 1) ∧ Q 0 v)) ∧ (¬ (1 : Int) = 0 → (((0 : Int) = 0 → (((1 : Int) = 0 ∨ (1 : Int) = 1) ∧ Q 1 v)) ∧ (¬ (0 : Int) = 0 → (((0 : Int) = 0 ∨ (0 : Int) = 1) ∧ Q 0 v)))))) : RR t d 267 [(2, (-12))] v Q := wp_sound (K := k_267) (cut := []) (f := 12) (cb := false) rfl h
set_option maxRecDepth 100000 in
theorem s_267_s10 {t : Int} {d : Nat} {v : Mem} {Q : Int → Mem → Prop} (h : Q 1 v) : RR t d 267 [(2, (-12))] v Q := w_267_s10 ⟨fun c => absurd c (by decide), fun _ => ⟨fun _ => ⟨Or.inr rfl, h⟩, fun c => absurd (by decide) c⟩⟩
set_option maxRecDepth 100000 in
theorem w_269_s54 {t : Int} {d : Nat} {a1 : Int} {v : Mem} {Q : Int → Mem → Prop} (h : (RR t d 268 [(0, a1), (0, 3)] v (fun x1 v1 => ((0 ≤ a1 ∧ a1 < 3) ∧ ((0 ≤ (w16u (iand (List.getD (sB.getD 10 []) (Int.toNat a1) 0) 255)) ∧ (w16u (iand (List.getD (sB.getD 10 []) (Int.toNat a1) 0) 255)) < 65536) ∧ Q (w16u (iand (List.getD (sB.getD 10 []) (Int.toNat a1) 0) 255)) v1))))) : RR t (d + 1) 269 [(2, (-56)), (0, a1)] v Q := wp_sound (K := k_269) (cut := []) (f := 14) (cb := false) rfl h
set_option maxRecDepth 100000 in
theorem s_269_s54 {t : Int} {d : Nat} {a1 : Int} {v : Mem} {Q : Int → Mem → Prop} (h : ((a1 < 0 → False) ∧ (¬ a1 < 0 → ((a1 < 3 → ((0 ≤ (w16u (iand (List.getD (sB.getD 10 []) (Int.toNat a1) 0) 255)) ∧ (w16u (iand (List.getD (sB.getD 10 []) (Int.toNat a1) 0) 255)) < 65536) ∧ Q (w16u (iand (List.getD (sB.getD 10 []) (Int.toNat a1) 0) 255)) v)) ∧ (¬ a1 < 3 → False))))) : RR t (d + 2) 269 [(2, (-56)), (0, a1)] v Q := w_269_s54 (s_268 ⟨fun c1 => (h.1 c1), fun c1 => ⟨fun c2 => ⟨⟨by omega, by omega⟩, ⟨((h.2 c1).1 c2).1, ((h.2 c1).1 c2).2⟩⟩, fun c2 => ((h.2 c1).2 c2)⟩⟩)
set_option maxRecDepth 100000 in
theorem w_263_s10 {t : Int} {d : Nat} {a1 : Int} {v : Mem} {Q : Int → Mem → Prop} (h : (RR t d 267 [(2, (-12))] v (fun x1 v1 => ((x1 = 0 → False) ∧ (¬ x1 = 0 → (RR t d 269 [(2, (-56)), (0, a1)] v1 (fun x2 v2 => ((0 ≤ x2 ∧ x2 < 65536) ∧ Q x2 v2)))))))) : RR t (d + 1) 263 [(2, (-12)), (0, a1)] v Q := wp_sound (K := k_263) (cut := []) (f := 16) (cb := false) rfl h
set_option maxRecDepth 100000 in
theorem s_263_s10 {t : Int} {d : Nat} {a1 : Int} {v : Mem} {Q : Int → Mem → Prop} (h : ((a1 < 0 → False) ∧ (¬ a1 < 0 → ((a1 < 3 → ((0 ≤ (w16u (iand (List.getD (sB.getD 10 []) (Int.toNat a1) 0) 255)) ∧ (w16u (iand (List.getD (sB.getD 10 []) (Int.toNat a1) 0) 255)) < 65536) ∧ ((0 ≤ (w16u (iand (List.getD (sB.getD 10 []) (Int.toNat a1) 0) 255)) ∧ (w16u (iand (List.getD (sB.getD 10 []) (Int.toNat a1) 0) 255)) < 65536) ∧ Q (w16u (iand (List.getD (sB.getD 10 []) (Int.toNat a1) 0) 255)) v))) ∧ (¬ a1 < 3 → False))))) : RR t (d + 3) 263 [(2, (-12)), (0, a1)] v Q := w_263_s10 (s_267_s10 ⟨fun c => absurd c (by decide), fun _ => s_269_s54 ⟨fun c1 => (h.1 c1), fun c1 => ⟨fun c2 => ⟨((h.2 c1).1 c2).1, ⟨((h.2 c1).1 c2).2.1, ((h.2 c1).1 c2).2.2⟩⟩, fun c2 => ((h.2 c1).2 c2)⟩⟩⟩)
theorem p_263_s10 {t : Int} {d : Nat} {a1 : Int} {v : Mem} {Q : Int → Mem → Prop} (h : (0 ≤ a1 ∧ a1 < 3) ∧ Q (List.getD (sB.getD 10 []) (Int.toNat a1) 0) v) : RR t (d + 3) 263 [(2, (-12)), (0, a1)] v Q := by
  have e := chrE 10 (Int.toNat a1)
  have e2 := chr_r 10 (Int.toNat a1)
  refine s_263_s10 ?_
  simp only [e]
  exact ⟨fun c => absurd h.1.1 (by omega), fun c => ⟨fun c2 => ⟨⟨e2.1, by omega⟩, ⟨e2.1, by omega⟩, h.2⟩, fun c2 => absurd h.1.2 c2⟩⟩
set_option maxRecDepth 100000 in
theorem w_266_s11 {t : Int} {d : Nat} {v : Mem} {Q : Int → Mem → Prop} (h : (((1 : Int) = 0 → ((-128 ≤ (1 : Int) ∧ (1 : Int) < 128) ∧ Q 1 v)) ∧ (¬ (1 : Int) = 0 → ((-128 ≤ (0 : Int) ∧ (0 : Int) < 128) ∧ Q 0 v)))) : RR t d 266 [(2, (-13))] v Q := wp_sound (K := k_266) (cut := []) (f := 10) (cb := false) rfl h
set_option maxRecDepth 100000 in
theorem s_266_s11 {t : Int} {d : Nat} {v : Mem} {Q : Int → Mem → Prop} (h : Q 0 v) : RR t d 266 [(2, (-13))] v Q := w_266_s11 ⟨fun c => absurd c (by decide), fun _ => ⟨⟨by decide, by decide⟩, h⟩⟩
set_option maxRecDepth 100000 in
theorem w_262_s11 {t : Int} {d : Nat} {v : Mem} {Q : Int → Mem → Prop} (h : (RR t d 266 [(2, (-13))] v (fun x1 v1 => Q (ishr 4 x1) v1))) : RR t (d + 1) 262 [(2, (-13))] v Q := wp_sound (K := k_262) (cut := []) (f := 10) (cb := false) rfl h
set_option maxRecDepth 100000 in
theorem s_262_s11 {t : Int} {d : Nat} {v : Mem} {Q : Int → Mem → Prop} (h : Q 4 v) : RR t (d + 1) 262 [(2, (-13))] v Q := w_262_s11 (s_266_s11 h)
set_option maxRecDepth 100000 in
theorem w_267_s11 {t : Int} {d : Nat} {v : Mem} {Q : Int → Mem → Prop} (h : (((1 : Int) = 0 → (((0 : Int) = 0 ∨ (0 : Int) = 1) ∧ Q 0 v)) ∧ (¬ (1 : Int) = 0 → (((0 : Int) = 0 → (((1 : Int) = 0 ∨ (1 : Int) = 1) ∧ Q 1 v)) ∧ (¬ (0 : Int) = 0 → (((0 : Int) = 0 ∨ (0 : Int) = 1) ∧ Q 0 v)))))) : RR t d 267 [(2, (-13))] v Q := wp_sound (K := k_267) (cut := []) (f := 12) (cb := false) rfl h
set_option maxRecDepth 100000 in
theorem s_267_s11 {t : Int} {d : Nat} {v : Mem} {Q : Int → Mem → Prop} (h : Q 1 v) : RR t d 267 [(2, (-13))] v Q := w_267_s11 ⟨fun c => absurd c (by decide), fun _ => ⟨fun _ => ⟨Or.inr rfl, h⟩, fun c => absurd (by decide) c⟩⟩
set_option maxRecDepth 100000 in
theorem w_269_s55 {t : Int} {d : Nat} {a1 : Int} {v : Mem} {Q : Int → Mem → Prop} (h : (RR t d 268 [(0, a1), (0, 4)] v (fun x1 v1 => ((0 ≤ a1 ∧ a1 < 4) ∧ ((0 ≤ (w16u (iand (List.getD (sB.getD 11 []) (Int.toNat a1) 0) 255)) ∧ (w16u (iand (List.getD (sB.getD 11 []) (Int.toNat a1) 0) 255)) < 65536) ∧ Q (w16u (iand (List.getD (sB.getD 11 []) (Int.toNat a1) 0) 255)) v1))))) : RR t (d + 1) 269 [(2, (-57)), (0, a1)] v Q := wp_sound (K := k_269) (cut := []) (f := 14) (cb := false) rfl h
set_option maxRecDepth 100000 in
theorem s_269_s55 {t : Int} {d : Nat} {a1 : Int} {v : Mem} {Q : Int → Mem → Prop} (h : ((a1 < 0 → False) ∧ (¬ a1 < 0 → ((a1 < 4 → ((0 ≤ (w16u (iand (List.getD (sB.getD 11 []) (Int.toNat a1) 0) 255)) ∧ (w16u (iand (List.getD (sB.getD 11 []) (Int.toNat a1) 0) 255)) < 65536) ∧ Q (w16u (iand (List.getD (sB.getD 11 []) (Int.toNat a1) 0) 255)) v)) ∧ (¬ a1 < 4 → False))))) : RR t (d + 2) 269 [(2, (-57)), (0, a1)] v Q := w_269_s55 (s_268 ⟨fun c1 => (h.1 c1), fun c1 => ⟨fun c2 => ⟨⟨by omega, by omega⟩, ⟨((h.2 c1).1 c2).1, ((h.2 c1).1 c2).2⟩⟩, fun c2 => ((h.2 c1).2 c2)⟩⟩)
set_option maxRecDepth 100000 in
theorem w_263_s11 {t : Int} {d : Nat} {a1 : Int} {v : Mem} {Q : Int → Mem → Prop} (h : (RR t d 267 [(2, (-13))] v (fun x1 v1 => ((x1 = 0 → False) ∧ (¬ x1 = 0 → (RR t d 269 [(2, (-57)), (0, a1)] v1 (fun x2 v2 => ((0 ≤ x2 ∧ x2 < 65536) ∧ Q x2 v2)))))))) : RR t (d + 1) 263 [(2, (-13)), (0, a1)] v Q := wp_sound (K := k_263) (cut := []) (f := 16) (cb := false) rfl h
set_option maxRecDepth 100000 in
theorem s_263_s11 {t : Int} {d : Nat} {a1 : Int} {v : Mem} {Q : Int → Mem → Prop} (h : ((a1 < 0 → False) ∧ (¬ a1 < 0 → ((a1 < 4 → ((0 ≤ (w16u (iand (List.getD (sB.getD 11 []) (Int.toNat a1) 0) 255)) ∧ (w16u (iand (List.getD (sB.getD 11 []) (Int.toNat a1) 0) 255)) < 65536) ∧ ((0 ≤ (w16u (iand (List.getD (sB.getD 11 []) (Int.toNat a1) 0) 255)) ∧ (w16u (iand (List.getD (sB.getD 11 []) (Int.toNat a1) 0) 255)) < 65536) ∧ Q (w16u (iand (List.getD (sB.getD 11 []) (Int.toNat a1) 0) 255)) v))) ∧ (¬ a1 < 4 → False))))) : RR t (d + 3) 263 [(2, (-13)), (0, a1)] v Q := w_263_s11 (s_267_s11 ⟨fun c => absurd c (by decide), fun _ => s_269_s55 ⟨fun c1 => (h.1 c1), fun c1 => ⟨fun c2 => ⟨((h.2 c1).1 c2).1, ⟨((h.2 c1).1 c2).2.1, ((h.2 c1).1 c2).2.2⟩⟩, fun c2 => ((h.2 c1).2 c2)⟩⟩⟩)
theorem p_263_s11 {t : Int} {d : Nat} {a1 : Int} {v : Mem} {Q : Int → Mem → Prop} (h : (0 ≤ a1 ∧ a1 < 4) ∧ Q (List.getD (sB.getD 11 []) (Int.toNat a1) 0) v) : RR t (d + 3) 263 [(2, (-13)), (0, a1)] v Q := by
  have e := chrE 11 (Int.toNat a1)
  have e2 := chr_r 11 (Int.toNat a1)
  refine s_263_s11 ?_
  simp only [e]
  exact ⟨fun c => absurd h.1.1 (by omega), fun c => ⟨fun c2 => ⟨⟨e2.1, by omega⟩, ⟨e2.1, by omega⟩, h.2⟩, fun c2 => absurd h.1.2 c2⟩⟩
set_option maxRecDepth 100000 in
theorem w_266_s12 {t : Int} {d : Nat} {v : Mem} {Q : Int → Mem → Prop} (h : (((1 : Int) = 0 → ((-128 ≤ (1 : Int) ∧ (1 : Int) < 128) ∧ Q 1 v)) ∧ (¬ (1 : Int) = 0 → ((-128 ≤ (0 : Int) ∧ (0 : Int) < 128) ∧ Q 0 v)))) : RR t d 266 [(2, (-14))] v Q := wp_sound (K := k_266) (cut := []) (f := 10) (cb := false) rfl h
set_option maxRecDepth 100000 in
theorem s_266_s12 {t : Int} {d : Nat} {v : Mem} {Q : Int → Mem → Prop} (h : Q 0 v) : RR t d 266 [(2, (-14))] v Q := w_266_s12 ⟨fun c => absurd c (by decide), fun _ => ⟨⟨by decide, by decide⟩, h⟩⟩
set_option maxRecDepth 100000 in
theorem w_262_s12 {t : Int} {d : Nat} {v : Mem} {Q : Int → Mem → Prop} (h : (RR t d 266 [(2, (-14))] v (fun x1 v1 => Q (ishr 1 x1) v1))) : RR t (d + 1) 262 [(2, (-14))] v Q := wp_sound (K := k_262) (cut := []) (f := 10) (cb := false) rfl h
set_option maxRecDepth 100000 in
theorem s_262_s12 {t : Int} {d : Nat} {v : Mem} {Q : Int → Mem → Prop} (h : Q 1 v) : RR t (d + 1) 262 [(2, (-14))] v Q := w_262_s12 (s_266_s12 h)
set_option maxRecDepth 100000 in
theorem w_267_s12 {t : Int} {d : Nat} {v : Mem} {Q : Int → Mem → Prop} (h : (((1 : Int) = 0 → (((0 : Int) = 0 ∨ (0 : Int) = 1) ∧ Q 0 v)) ∧ (¬ (1 : Int) = 0 → (((0 : Int) = 0 → (((1 : Int) = 0 ∨ (1 : Int) = 1) ∧ Q 1 v)) ∧ (¬ (0 : Int) = 0 → (((0 : Int) = 0 ∨ (0 : Int) = 1) ∧ Q 0 v)))))) : RR t d 267 [(2, (-14))] v Q := wp_sound (K := k_267) (cut := []) (f := 12) (cb := false) rfl h
set_option maxRecDepth 100000 in
theorem s_267_s12 {t : Int} {d : Nat} {v : Mem} {Q : Int → Mem → Prop} (h : Q 1 v) : RR t d 267 [(2, (-14))] v Q := w_267_s12 ⟨fun c => absurd c (by decide), fun _ => ⟨fun _ => ⟨Or.inr rfl, h⟩, fun c => absurd (by decide) c⟩⟩
set_option maxRecDepth 100000 in
theorem w_269_s56 {t : Int} {d : Nat} {a1 : Int} {v : Mem} {Q : Int → Mem → Prop} (h : (RR t d 268 [(0, a1), (0, 1)] v (fun x1 v1 => ((0 ≤ a1 ∧ a1 < 1) ∧ ((0 ≤ (w16u (iand (List.getD (sB.getD 12 []) (Int.toNat a1) 0) 255)) ∧ (w16u (iand (List.getD (sB.getD 12 []) (Int.toNat a1) 0) 255)) < 65536) ∧ Q (w16u (iand (List.getD (sB.getD 12 []) (Int.toNat a1) 0) 255)) v1))))) : RR t (d + 1) 269 [(2, (-58)), (0, a1)] v Q := wp_sound (K := k_269) (cut := []) (f := 14) (cb := false) rfl h
set_option maxRecDepth 100000 in
theorem s_269_s56 {t : Int} {d : Nat} {a1 : Int} {v : Mem} {Q : Int → Mem → Prop} (h : ((a1 < 0 → False) ∧ (¬ a1 < 0 → ((a1 < 1 → ((0 ≤ (w16u (iand (List.getD (sB.getD 12 []) (Int.toNat a1) 0) 255)) ∧ (w16u (iand (List.getD (sB.getD 12 []) (Int.toNat a1) 0) 255)) < 65536) ∧ Q (w16u (iand (List.getD (sB.getD 12 []) (Int.toNat a1) 0) 255)) v)) ∧ (¬ a1 < 1 → False))))) : RR t (d + 2) 269 [(2, (-58)), (0, a1)] v Q := w_269_s56 (s_268 ⟨fun c1 => (h.1 c1), fun c1 => ⟨fun c2 => ⟨⟨by omega, by omega⟩, ⟨((h.2 c1).1 c2).1, ((h.2 c1).1 c2).2⟩⟩, fun c2 => ((h.2 c1).2 c2)⟩⟩)
set_option maxRecDepth 100000 in
theorem w_263_s12 {t : Int} {d : Nat} {a1 : Int} {v : Mem} {Q : Int → Mem → Prop} (h : (RR t d 267 [(2, (-14))] v (fun x1 v1 => ((x1 = 0 → False) ∧ (¬ x1 = 0 → (RR t d 269 [(2, (-58)), (0, a1)] v1 (fun x2 v2 => ((0 ≤ x2 ∧ x2 < 65536) ∧ Q x2 v2)))))))) : RR t (d + 1) 263 [(2, (-14)), (0, a1)] v Q := wp_sound (K := k_263) (cut := []) (f := 16) (cb := false) rfl h
set_option maxRecDepth 100000 in
theorem s_263_s12 {t : Int} {d : Nat} {a1 : Int} {v : Mem} {Q : Int → Mem → Prop} (h : ((a1 < 0 → False) ∧ (¬ a1 < 0 → ((a1 < 1 → ((0 ≤ (w16u (iand (List.getD (sB.getD 12 []) (Int.toNat a1) 0) 255)) ∧ (w16u (iand (List.getD (sB.getD 12 []) (Int.toNat a1) 0) 255)) < 65536) ∧ ((0 ≤ (w16u (iand (List.getD (sB.getD 12 []) (Int.toNat a1) 0) 255)) ∧ (w16u (iand (List.getD (sB.getD 12 []) (Int.toNat a1) 0) 255)) < 65536) ∧ Q (w16u (iand (List.getD (sB.getD 12 []) (Int.toNat a1) 0) 255)) v))) ∧ (¬ a1 < 1 → False))))) : RR t (d + 3) 263 [(2, (-14)), (0, a1)] v Q := w_263_s12 (s_267_s12 ⟨fun c => absurd c (by decide), fun _ => s_269_s56 ⟨fun c1 => (h.1 c1), fun c1 => ⟨fun c2 => ⟨((h.2 c1).1 c2).1, ⟨((h.2 c1).1 c2).2.1, ((h.2 c1).1 c2).2.2⟩⟩, fun c2 => ((h.2 c1).2 c2)⟩⟩⟩)
theorem p_263_s12 {t : Int} {d : Nat} {a1 : Int} {v : Mem} {Q : Int → Mem → Prop} (h : (0 ≤ a1 ∧ a1 < 1) ∧ Q (List.getD (sB.getD 12 []) (Int.toNat a1) 0) v) : RR t (d + 3) 263 [(2, (-14)), (0, a1)] v Q := by
  have e := chrE 12 (Int.toNat a1)
  have e2 := chr_r 12 (Int.toNat a1)
  refine s_263_s12 ?_
  simp only [e]
  exact ⟨fun c => absurd h.1.1 (by omega), fun c => ⟨fun c2 => ⟨⟨e2.1, by omega⟩, ⟨e2.1, by omega⟩, h.2⟩, fun c2 => absurd h.1.2 c2⟩⟩
set_option maxRecDepth 100000 in
theorem w_266_s13 {t : Int} {d : Nat} {v : Mem} {Q : Int → Mem → Prop} (h : (((1 : Int) = 0 → ((-128 ≤ (1 : Int) ∧ (1 : Int) < 128) ∧ Q 1 v)) ∧ (¬ (1 : Int) = 0 → ((-128 ≤ (0 : Int) ∧ (0 : Int) < 128) ∧ Q 0 v)))) : RR t d 266 [(2, (-15))] v Q := wp_sound (K := k_266) (cut := []) (f := 10) (cb := false) rfl h
set_option maxRecDepth 100000 in
theorem s_266_s13 {t : Int} {d : Nat} {v : Mem} {Q : Int → Mem → Prop} (h : Q 0 v) : RR t d 266 [(2, (-15))] v Q := w_266_s13 ⟨fun c => absurd c (by decide), fun _ => ⟨⟨by decide, by decide⟩, h⟩⟩
set_option maxRecDepth 100000 in
theorem w_262_s13 {t : Int} {d : Nat} {v : Mem} {Q : Int → Mem → Prop} (h : (RR t d 266 [(2, (-15))] v (fun x1 v1 => Q (ishr 1 x1) v1))) : RR t (d + 1) 262 [(2, (-15))] v Q := wp_sound (K := k_262) (cut := []) (f := 10) (cb := false) rfl h
set_option maxRecDepth 100000 in
theorem s_262_s13 {t : Int} {d : Nat} {v : Mem} {Q : Int → Mem → Prop} (h : Q 1 v) : RR t (d + 1) 262 [(2, (-15))] v Q := w_262_s13 (s_266_s13 h)
set_option maxRecDepth 100000 in
theorem w_267_s13 {t : Int} {d : Nat} {v : Mem} {Q : Int → Mem → Prop} (h : (((1 : Int) = 0 → (((0 : Int) = 0 ∨ (0 : Int) = 1) ∧ Q 0 v)) ∧ (¬ (1 : Int) = 0 → (((0 : Int) = 0 → (((1 : Int) = 0 ∨ (1 : Int) = 1) ∧ Q 1 v)) ∧ (¬ (0 : Int) = 0 → (((0 : Int) = 0 ∨ (0 : Int) = 1) ∧ Q 0 v)))))) : RR t d 267 [(2, (-15))] v Q := wp_sound (K := k_267) (cut := []) (f := 12) (cb := false) rfl h
set_option maxRecDepth 100000 in
theorem s_267_s13 {t : Int} {d : Nat} {v : Mem} {Q : Int → Mem → Prop} (h : Q 1 v) : RR t d 267 [(2, (-15))] v Q := w_267_s13 ⟨fun c => absurd c (by decide), fun _ => ⟨fun _ => ⟨Or.inr rfl, h⟩, fun c => absurd (by decide) c⟩⟩
set_option maxRecDepth 100000 in
theorem w_269_s57 {t : Int} {d : Nat} {a1 : Int} {v : Mem} {Q : Int → Mem → Prop} (h : (RR t d 268 [(0, a1), (0, 1)] v (fun x1 v1 => ((0 ≤ a1 ∧ a1 < 1) ∧ ((0 ≤ (w16u (iand (List.getD (sB.getD 13 []) (Int.toNat a1) 0) 255)) ∧ (w16u (iand (List.getD (sB.getD 13 []) (Int.toNat a1) 0) 255)) < 65536) ∧ Q (w16u (iand (List.getD (sB.getD 13 []) (Int.toNat a1) 0) 255)) v1))))) : RR t (d + 1) 269 [(2, (-59)), (0, a1)] v Q := wp_sound (K := k_269) (cut := []) (f := 14) (cb := false) rfl h
set_option maxRecDepth 100000 in
theorem s_269_s57 {t : Int} {d : Nat} {a1 : Int} {v : Mem} {Q : Int → Mem → Prop} (h : ((a1 < 0 → False) ∧ (¬ a1 < 0 → ((a1 < 1 → ((0 ≤ (w16u (iand (List.getD (sB.getD 13 []) (Int.toNat a1) 0) 255)) ∧ (w16u (iand (List.getD (sB.getD 13 []) (Int.toNat a1) 0) 255)) < 65536) ∧ Q (w16u (iand (List.getD (sB.getD 13 []) (Int.toNat a1) 0) 255)) v)) ∧ (¬ a1 < 1 → False))))) : RR t (d + 2) 269 [(2, (-59)), (0, a1)] v Q := w_269_s57 (s_268 ⟨fun c1 => (h.1 c1), fun c1 => ⟨fun c2 => ⟨⟨by omega, by omega⟩, ⟨((h.2 c1).1 c2).1, ((h.2 c1).1 c2).2⟩⟩, fun c2 => ((h.2 c1).2 c2)⟩⟩)
set_option maxRecDepth 100000 in
theorem w_263_s13 {t : Int} {d : Nat} {a1 : Int} {v : Mem} {Q : Int → Mem → Prop} (h : (RR t d 267 [(2, (-15))] v (fun x1 v1 => ((x1 = 0 → False) ∧ (¬ x1 = 0 → (RR t d 269 [(2, (-59)), (0, a1)] v1 (fun x2 v2 => ((0 ≤ x2 ∧ x2 < 65536) ∧ Q x2 v2)))))))) : RR t (d + 1) 263 [(2, (-15)), (0, a1)] v Q := wp_sound (K := k_263) (cut := []) (f := 16) (cb := false) rfl h
set_option maxRecDepth 100000 in
theorem s_263_s13 {t : Int} {d : Nat} {a1 : Int} {v : Mem} {Q : Int → Mem → Prop} (h : ((a1 < 0 → False) ∧ (¬ a1 < 0 → ((a1 < 1 → ((0 ≤ (w16u (iand (List.getD (sB.getD 13 []) (Int.toNat a1) 0) 255)) ∧ (w16u (iand (List.getD (sB.getD 13 []) (Int.toNat a1) 0) 255)) < 65536) ∧ ((0 ≤ (w16u (iand (List.getD (sB.getD 13 []) (Int.toNat a1) 0) 255)) ∧ (w16u (iand (List.getD (sB.getD 13 []) (Int.toNat a1) 0) 255)) < 65536) ∧ Q (w16u (iand (List.getD (sB.getD 13 []) (Int.toNat a1) 0) 255)) v))) ∧ (¬ a1 < 1 → False))))) : RR t (d + 3) 263 [(2, (-15)), (0, a1)] v Q := w_263_s13 (s_267_s13 ⟨fun c => absurd c (by decide), fun _ => s_269_s57 ⟨fun c1 => (h.1 c1), fun c1 => ⟨fun c2 => ⟨((h.2 c1).1 c2).1, ⟨((h.2 c1).1 c2).2.1, ((h.2 c1).1 c2).2.2⟩⟩, fun c2 => ((h.2 c1).2 c2)⟩⟩⟩)
theorem p_263_s13 {t : Int} {d : Nat} {a1 : Int} {v : Mem} {Q : Int → Mem → Prop} (h : (0 ≤ a1 ∧ a1 < 1) ∧ Q (List.getD (sB.getD 13 []) (Int.toNat a1) 0) v) : RR t (d + 3) 263 [(2, (-15)), (0, a1)] v Q := by
  have e := chrE 13 (Int.toNat a1)
  have e2 := chr_r 13 (Int.toNat a1)
  refine s_263_s13 ?_
  simp only [e]
  exact ⟨fun c => absurd h.1.1 (by omega), fun c => ⟨fun c2 => ⟨⟨e2.1, by omega⟩, ⟨e2.1, by omega⟩, h.2⟩, fun c2 => absurd h.1.2 c2⟩⟩
set_option maxRecDepth 100000 in
theorem w_266_s14 {t : Int} {d : Nat} {v : Mem} {Q : Int → Mem → Prop} (h : (((1 : Int) = 0 → ((-128 ≤ (1 : Int) ∧ (1 : Int) < 128) ∧ Q 1 v)) ∧ (¬ (1 : Int) = 0 → ((-128 ≤ (0 : Int) ∧ (0 : Int) < 128) ∧ Q 0 v)))) : RR t d 266 [(2, (-16))] v Q := wp_sound (K := k_266) (cut := []) (f := 10) (cb := false) rfl h
set_option maxRecDepth 100000 in
theorem s_266_s14 {t : Int} {d : Nat} {v : Mem} {Q : Int → Mem → Prop} (h : Q 0 v) : RR t d 266 [(2, (-16))] v Q := w_266_s14 ⟨fun c => absurd c (by decide), fun _ => ⟨⟨by decide, by decide⟩, h⟩⟩
set_option maxRecDepth 100000 in
theorem w_262_s14 {t : Int} {d : Nat} {v : Mem} {Q : Int → Mem → Prop} (h : (RR t d 266 [(2, (-16))] v (fun x1 v1 => Q (ishr 1 x1) v1))) : RR t (d + 1) 262 [(2, (-16))] v Q := wp_sound (K := k_262) (cut := []) (f := 10) (cb := false) rfl h
set_option maxRecDepth 100000 in
theorem s_262_s14 {t : Int} {d : Nat} {v : Mem} {Q : Int → Mem → Prop} (h : Q 1 v) : RR t (d + 1) 262 [(2, (-16))] v Q := w_262_s14 (s_266_s14 h)
set_option maxRecDepth 100000 in
theorem w_267_s14 {t : Int} {d : Nat} {v : Mem} {Q : Int → Mem → Prop} (h : (((1 : Int) = 0 → (((0 : Int) = 0 ∨ (0 : Int) = 1) ∧ Q 0 v)) ∧ (¬ (1 : Int) = 0 → (((0 : Int) = 0 → (((1 : Int) = 0 ∨ (1 : Int) = 1) ∧ Q 1 v)) ∧ (¬ (0 : Int) = 0 → (((0 : Int) = 0 ∨ (0 : Int) = 1) ∧ Q 0 v)))))) : RR t d 267 [(2, (-16))] v Q := wp_sound (K := k_267) (cut := []) (f := 12) (cb := false) rfl h
set_option maxRecDepth 100000 in
theorem s_267_s14 {t : Int} {d : Nat} {v : Mem} {Q : Int → Mem → Prop} (h : Q 1 v) : RR t d 267 [(2, (-16))] v Q := w_267_s14 ⟨fun c => absurd c (by decide), fun _ => ⟨fun _ => ⟨Or.inr rfl, h⟩, fun c => absurd (by decide) c⟩⟩
set_option maxRecDepth 100000 in
theorem w_269_s58 {t : Int} {d : Nat} {a1 : Int} {v : Mem} {Q : Int → Mem → Prop} (h : (RR t d 268 [(0, a1), (0, 1)] v (fun x1 v1 => ((0 ≤ a1 ∧ a1 < 1) ∧ ((0 ≤ (w16u (iand (List.getD (sB.getD 14 []) (Int.toNat a1) 0) 255)) ∧ (w16u (iand (List.getD (sB.getD 14 []) (Int.toNat a1) 0) 255)) < 65536) ∧ Q (w16u (iand (List.getD (sB.getD 14 []) (Int.toNat a1) 0) 255)) v1))))) : RR t (d + 1) 269 [(2, (-60)), (0, a1)] v Q := wp_sound (K := k_269) (cut := []) (f := 14) (cb := false) rfl h
set_option maxRecDepth 100000 in
theorem s_269_s58 {t : Int} {d : Nat} {a1 : Int} {v : Mem} {Q : Int → Mem → Prop} (h : ((a1 < 0 → False) ∧ (¬ a1 < 0 → ((a1 < 1 → ((0 ≤ (w16u (iand (List.getD (sB.getD 14 []) (Int.toNat a1) 0) 255)) ∧ (w16u (iand (List.getD (sB.getD 14 []) (Int.toNat a1) 0) 255)) < 65536) ∧ Q (w16u (iand (List.getD (sB.getD 14 []) (Int.toNat a1) 0) 255)) v)) ∧ (¬ a1 < 1 → False))))) : RR t (d + 2) 269 [(2, (-60)), (0, a1)] v Q := w_269_s58 (s_268 ⟨fun c1 => (h.1 c1), fun c1 => ⟨fun c2 => ⟨⟨by omega, by omega⟩, ⟨((h.2 c1).1 c2).1, ((h.2 c1).1 c2).2⟩⟩, fun c2 => ((h.2 c1).2 c2)⟩⟩)
set_option maxRecDepth 100000 in
theorem w_263_s14 {t : Int} {d : Nat} {a1 : Int} {v : Mem} {Q : Int → Mem → Prop} (h : (RR t d 267 [(2, (-16))] v (fun x1 v1 => ((x1 = 0 → False) ∧ (¬ x1 = 0 → (RR t d 269 [(2, (-60)), (0, a1)] v1 (fun x2 v2 => ((0 ≤ x2 ∧ x2 < 65536) ∧ Q x2 v2)))))))) : RR t (d + 1) 263 [(2, (-16)), (0, a1)] v Q := wp_sound (K := k_263) (cut := []) (f := 16) (cb := false) rfl h
set_option maxRecDepth 100000 in
theorem s_263_s14 {t : Int} {d : Nat} {a1 : Int} {v : Mem} {Q : Int → Mem → Prop} (h : ((a1 < 0 → False) ∧ (¬ a1 < 0 → ((a1 < 1 → ((0 ≤ (w16u (iand (List.getD (sB.getD 14 []) (Int.toNat a1) 0) 255)) ∧ (w16u (iand (List.getD (sB.getD 14 []) (Int.toNat a1) 0) 255)) < 65536) ∧ ((0 ≤ (w16u (iand (List.getD (sB.getD 14 []) (Int.toNat a1) 0) 255)) ∧ (w16u (iand (List.getD (sB.getD 14 []) (Int.toNat a1) 0) 255)) < 65536) ∧ Q (w16u (iand (List.getD (sB.getD 14 []) (Int.toNat a1) 0) 255)) v))) ∧ (¬ a1 < 1 → False))))) : RR t (d + 3) 263 [(2, (-16)), (0, a1)] v Q := w_263_s14 (s_267_s14 ⟨fun c => absurd c (by decide), fun _ => s_269_s58 ⟨fun c1 => (h.1 c1), fun c1 => ⟨fun c2 => ⟨((h.2 c1).1 c2).1, ⟨((h.2 c1).1 c2).2.1, ((h.2 c1).1 c2).2.2⟩⟩, fun c2 => ((h.2 c1).2 c2)⟩⟩⟩)
theorem p_263_s14 {t : Int} {d : Nat} {a1 : Int} {v : Mem} {Q : Int → Mem → Prop} (h : (0 ≤ a1 ∧ a1 < 1) ∧ Q (List.getD (sB.getD 14 []) (Int.toNat a1) 0) v) : RR t (d + 3) 263 [(2, (-16)), (0, a1)] v Q := by
  have e := chrE 14 (Int.toNat a1)
  have e2 := chr_r 14 (Int.toNat a1)
  refine s_263_s14 ?_
  simp only [e]
  exact ⟨fun c => absurd h.1.1 (by omega), fun c => ⟨fun c2 => ⟨⟨e2.1, by omega⟩, ⟨e2.1, by omega⟩, h.2⟩, fun c2 => absurd h.1.2 c2⟩⟩
set_option maxRecDepth 100000 in
theorem w_266_s15 {t : Int} {d : Nat} {v : Mem} {Q : Int → Mem → Prop} (h : (((1 : Int) = 0 → ((-128 ≤ (1 : Int) ∧ (1 : Int) < 128) ∧ Q 1 v)) ∧ (¬ (1 : Int) = 0 → ((-128 ≤ (0 : Int) ∧ (0 : Int) < 128) ∧ Q 0 v)))) : RR t d 266 [(2, (-17))] v Q := wp_sound (K := k_266) (cut := []) (f := 10) (cb := false) rfl h
set_option maxRecDepth 100000 in
theorem s_266_s15 {t : Int} {d : Nat} {v : Mem} {Q : Int → Mem → Prop} (h : Q 0 v) : RR t d 266 [(2, (-17))] v Q := w_266_s15 ⟨fun c => absurd c (by decide), fun _ => ⟨⟨by decide, by decide⟩, h⟩⟩
set_option maxRecDepth 100000 in
theorem w_262_s15 {t : Int} {d : Nat} {v : Mem} {Q : Int → Mem → Prop} (h : (RR t d 266 [(2, (-17))] v (fun x1 v1 => Q (ishr 3 x1) v1))) : RR t (d + 1) 262 [(2, (-17))] v Q := wp_sound (K := k_262) (cut := []) (f := 10) (cb := false) rfl h
set_option maxRecDepth 100000 in
theorem s_262_s15 {t : Int} {d : Nat} {v : Mem} {Q : Int → Mem → Prop} (h : Q 3 v) : RR t (d + 1) 262 [(2, (-17))] v Q := w_262_s15 (s_266_s15 h)
set_option maxRecDepth 100000 in
theorem w_267_s15 {t : Int} {d : Nat} {v : Mem} {Q : Int → Mem → Prop} (h : (((1 : Int) = 0 → (((0 : Int) = 0 ∨ (0 : Int) = 1) ∧ Q 0 v)) ∧ (¬ (1 : Int) = 0 → (((0 : Int) = 0 → (((1 : Int) = 0 ∨ (1 : Int) = 1) ∧ Q 1 v)) ∧ (¬ (0 : Int) = 0 → (((0 : Int) = 0 ∨ (0 : Int) = 1) ∧ Q 0 v)))))) : RR t d 267 [(2, (-17))] v Q := wp_sound (K := k_267) (cut := []) (f := 12) (cb := false) rfl h
set_option maxRecDepth 100000 in
theorem s_267_s15 {t : Int} {d : Nat} {v : Mem} {Q : Int → Mem → Prop} (h : Q 1 v) : RR t d 267 [(2, (-17))] v Q := w_267_s15 ⟨fun c => absurd c (by decide), fun _ => ⟨fun _ => ⟨Or.inr rfl, h⟩, fun c => absurd (by decide) c⟩⟩
set_option maxRecDepth 100000 in
theorem w_269_s59 {t : Int} {d : Nat} {a1 : Int} {v : Mem} {Q : Int → Mem → Prop} (h : (RR t d 268 [(0, a1), (0, 3)] v (fun x1 v1 => ((0 ≤ a1 ∧ a1 < 3) ∧ ((0 ≤ (w16u (iand (List.getD (sB.getD 15 []) (Int.toNat a1) 0) 255)) ∧ (w16u (iand (List.getD (sB.getD 15 []) (Int.toNat a1) 0) 255)) < 65536) ∧ Q (w16u (iand (List.getD (sB.getD 15 []) (Int.toNat a1) 0) 255)) v1))))) : RR t (d + 1) 269 [(2, (-61)), (0, a1)] v Q := wp_sound (K := k_269) (cut := []) (f := 14) (cb := false) rfl h
set_option maxRecDepth 100000 in
theorem s_269_s59 {t : Int} {d : Nat} {a1 : Int} {v : Mem} {Q : Int → Mem → Prop} (h : ((a1 < 0 → False) ∧ (¬ a1 < 0 → ((a1 < 3 → ((0 ≤ (w16u (iand (List.getD (sB.getD 15 []) (Int.toNat a1) 0) 255)) ∧ (w16u (iand (List.getD (sB.getD 15 []) (Int.toNat a1) 0) 255)) < 65536) ∧ Q (w16u (iand (List.getD (sB.getD 15 []) (Int.toNat a1) 0) 255)) v)) ∧ (¬ a1 < 3 → False))))) : RR t (d + 2) 269 [(2, (-61)), (0, a1)] v Q := w_269_s59 (s_268 ⟨fun c1 => (h.1 c1), fun c1 => ⟨fun c2 => ⟨⟨by omega, by omega⟩, ⟨((h.2 c1).1 c2).1, ((h.2 c1).1 c2).2⟩⟩, fun c2 => ((h.2 c1).2 c2)⟩⟩)
set_option maxRecDepth 100000 in
theorem w_263_s15 {t : Int} {d : Nat} {a1 : Int} {v : Mem} {Q : Int → Mem → Prop} (h : (RR t d 267 [(2, (-17))] v (fun x1 v1 => ((x1 = 0 → False) ∧ (¬ x1 = 0 → (RR t d 269 [(2, (-61)), (0, a1)] v1 (fun x2 v2 => ((0 ≤ x2 ∧ x2 < 65536) ∧ Q x2 v2)))))))) : RR t (d + 1) 263 [(2, (-17)), (0, a1)] v Q := wp_sound (K := k_263) (cut := []) (f := 16) (cb := false) rfl h
set_option maxRecDepth 100000 in
theorem s_263_s15 {t : Int} {d : Nat} {a1 : Int} {v : Mem} {Q : Int → Mem → Prop} (h : ((a1 < 0 → False) ∧ (¬ a1 < 0 → ((a1 < 3 → ((0 ≤ (w16u (iand (List.getD (sB.getD 15 []) (Int.toNat a1) 0) 255)) ∧ (w16u (iand (List.getD (sB.getD 15 []) (Int.toNat a1) 0) 255)) < 65536) ∧ ((0 ≤ (w16u (iand (List.getD (sB.getD 15 []) (Int.toNat a1) 0) 255)) ∧ (w16u (iand (List.getD (sB.getD 15 []) (Int.toNat a1) 0) 255)) < 65536) ∧ Q (w16u (iand (List.getD (sB.getD 15 []) (Int.toNat a1) 0) 255)) v))) ∧ (¬ a1 < 3 → False))))) : RR t (d + 3) 263 [(2, (-17)), (0, a1)] v Q := w_263_s15 (s_267_s15 ⟨fun c => absurd c (by decide), fun _ => s_269_s59 ⟨fun c1 => (h.1 c1), fun c1 => ⟨fun c2 => ⟨((h.2 c1).1 c2).1, ⟨((h.2 c1).1 c2).2.1, ((h.2 c1).1 c2).2.2⟩⟩, fun c2 => ((h.2 c1).2 c2)⟩⟩⟩)
theorem p_263_s15 {t : Int} {d : Nat} {a1 : Int} {v : Mem} {Q : Int → Mem → Prop} (h : (0 ≤ a1 ∧ a1 < 3) ∧ Q (List.getD (sB.getD 15 []) (Int.toNat a1) 0) v) : RR t (d + 3) 263 [(2, (-17)), (0, a1)] v Q := by
  have e := chrE 15 (Int.toNat a1)
  have e2 := chr_r 15 (Int.toNat a1)
  refine s_263_s15 ?_
  simp only [e]
  exact ⟨fun c => absurd h.1.1 (by omega), fun c => ⟨fun c2 => ⟨⟨e2.1, by omega⟩, ⟨e2.1, by omega⟩, h.2⟩, fun c2 => absurd h.1.2 c2⟩⟩
set_option maxRecDepth 100000 in
theorem w_266_s16 {t : Int} {d : Nat} {v : Mem} {Q : Int → Mem → Prop} (h : (((1 : Int) = 0 → ((-128 ≤ (1 : Int) ∧ (1 : Int) < 128) ∧ Q 1 v)) ∧ (¬ (1 : Int) = 0 → ((-128 ≤ (0 : Int) ∧ (0 : Int) < 128) ∧ Q 0 v)))) : RR t d 266 [(2, (-18))] v Q := wp_sound (K := k_266) (cut := []) (f := 10) (cb := false) rfl h
set_option maxRecDepth 100000 in
theorem s_266_s16 {t : Int} {d : Nat} {v : Mem} {Q : Int → Mem → Prop} (h : Q 0 v) : RR t d 266 [(2, (-18))] v Q := w_266_s16 ⟨fun c => absurd c (by decide), fun _ => ⟨⟨by decide, by decide⟩, h⟩⟩
set_option maxRecDepth 100000 in
theorem w_262_s16 {t : Int} {d : Nat} {v : Mem} {Q : Int → Mem → Prop} (h : (RR t d 266 [(2, (-18))] v (fun x1 v1 => Q (ishr 2 x1) v1))) : RR t (d + 1) 262 [(2, (-18))] v Q := wp_sound (K := k_262) (cut := []) (f := 10) (cb := false) rfl h
set_option maxRecDepth 100000 in
theorem s_262_s16 {t : Int} {d : Nat} {v : Mem} {Q : Int → Mem → Prop} (h : Q 2 v) : RR t (d + 1) 262 [(2, (-18))] v Q := w_262_s16 (s_266_s16 h)
set_option maxRecDepth 100000 in
theorem w_267_s16 {t : Int} {d : Nat} {v : Mem} {Q : Int → Mem → Prop} (h : (((1 : Int) = 0 → (((0 : Int) = 0 ∨ (0 : Int) = 1) ∧ Q 0 v)) ∧ (¬ (1 : Int) = 0 → (((0 : Int) = 0 → (((1 : Int) = 0 ∨ (1 : Int) = 1) ∧ Q 1 v)) ∧ (¬ (0 : Int) = 0 → (((0 : Int) = 0 ∨ (0 : Int) = 1) ∧ Q 0 v)))))) : RR t d 267 [(2, (-18))] v Q := wp_sound (K := k_267) (cut := []) (f := 12) (cb := false) rfl h
set_option maxRecDepth 100000 in
theorem s_267_s16 {t : Int} {d : Nat} {v : Mem} {Q : Int → Mem → Prop} (h : Q 1 v) : RR t d 267 [(2, (-18))] v Q := w_267_s16 ⟨fun c => absurd c (by decide), fun _ => ⟨fun _ => ⟨Or.inr rfl, h⟩, fun c => absurd (by decide) c⟩⟩
set_option maxRecDepth 100000 in
theorem w_269_s60 {t : Int} {d : Nat} {a1 : Int} {v : Mem} {Q : Int → Mem → Prop} (h : (RR t d 268 [(0, a1), (0, 2)] v (fun x1 v1 => ((0 ≤ a1 ∧ a1 < 2) ∧ ((0 ≤ (w16u (iand (List.getD (sB.getD 16 []) (Int.toNat a1) 0) 255)) ∧ (w16u (iand (List.getD (sB.getD 16 []) (Int.toNat a1) 0) 255)) < 65536) ∧ Q (w16u (iand (List.getD (sB.getD 16 []) (Int.toNat a1) 0) 255)) v1))))) : RR t (d + 1) 269 [(2, (-62)), (0, a1)] v Q := wp_sound (K := k_269) (cut := []) (f := 14) (cb := false) rfl h
set_option maxRecDepth 100000 in
theorem s_269_s60 {t : Int} {d : Nat} {a1 : Int} {v : Mem} {Q : Int → Mem → Prop} (h : ((a1 < 0 → False) ∧ (¬ a1 < 0 → ((a1 < 2 → ((0 ≤ (w16u (iand (List.getD (sB.getD 16 []) (Int.toNat a1) 0) 255)) ∧ (w16u (iand (List.getD (sB.getD 16 []) (Int.toNat a1) 0) 255)) < 65536) ∧ Q (w16u (iand (List.getD (sB.getD 16 []) (Int.toNat a1) 0) 255)) v)) ∧ (¬ a1 < 2 → False))))) : RR t (d + 2) 269 [(2, (-62)), (0, a1)] v Q := w_269_s60 (s_268 ⟨fun c1 => (h.1 c1), fun c1 => ⟨fun c2 => ⟨⟨by omega, by omega⟩, ⟨((h.2 c1).1 c2).1, ((h.2 c1).1 c2).2⟩⟩, fun c2 => ((h.2 c1).2 c2)⟩⟩)
set_option maxRecDepth 100000 in
theorem w_263_s16 {t : Int} {d : Nat} {a1 : Int} {v : Mem} {Q : Int → Mem → Prop} (h : (RR t d 267 [(2, (-18))] v (fun x1 v1 => ((x1 = 0 → False) ∧ (¬ x1 = 0 → (RR t d 269 [(2, (-62)), (0, a1)] v1 (fun x2 v2 => ((0 ≤ x2 ∧ x2 < 65536) ∧ Q x2 v2)))))))) : RR t (d + 1) 263 [(2, (-18)), (0, a1)] v Q := wp_sound (K := k_263) (cut := []) (f := 16) (cb := false) rfl h
set_option maxRecDepth 100000 in
theorem s_263_s16 {t : Int} {d : Nat} {a1 : Int} {v : Mem} {Q : Int → Mem → Prop} (h : ((a1 < 0 → False) ∧ (¬ a1 < 0 → ((a1 < 2 → ((0 ≤ (w16u (iand (List.getD (sB.getD 16 []) (Int.toNat a1) 0) 255)) ∧ (w16u (iand (List.getD (sB.getD 16 []) (Int.toNat a1) 0) 255)) < 65536) ∧ ((0 ≤ (w16u (iand (List.getD (sB.getD 16 []) (Int.toNat a1) 0) 255)) ∧ (w16u (iand (List.getD (sB.getD 16 []) (Int.toNat a1) 0) 255)) < 65536) ∧ Q (w16u (iand (List.getD (sB.getD 16 []) (Int.toNat a1) 0) 255)) v))) ∧ (¬ a1 < 2 → False))))) : RR t (d + 3) 263 [(2, (-18)), (0, a1)] v Q := w_263_s16 (s_267_s16 ⟨fun c => absurd c (by decide), fun _ => s_269_s60 ⟨fun c1 => (h.1 c1), fun c1 => ⟨fun c2 => ⟨((h.2 c1).1 c2).1, ⟨((h.2 c1).1 c2).2.1, ((h.2 c1).1 c2).2.2⟩⟩, fun c2 => ((h.2 c1).2 c2)⟩⟩⟩)
theorem p_263_s16 {t : Int} {d : Nat} {a1 : Int} {v : Mem} {Q : Int → Mem → Prop} (h : (0 ≤ a1 ∧ a1 < 2) ∧ Q (List.getD (sB.getD 16 []) (Int.toNat a1) 0) v) : RR t (d + 3) 263 [(2, (-18)), (0, a1)] v Q := by
  have e := chrE 16 (Int.toNat a1)
  have e2 := chr_r 16 (Int.toNat a1)
  refine s_263_s16 ?_
  simp only [e]
  exact ⟨fun c => absurd h.1.1 (by omega), fun c => ⟨fun c2 => ⟨⟨e2.1, by omega⟩, ⟨e2.1, by omega⟩, h.2⟩, fun c2 => absurd h.1.2 c2⟩⟩
set_option maxRecDepth 100000 in
theorem w_266_s17 {t : Int} {d : Nat} {v : Mem} {Q : Int → Mem → Prop} (h : (((1 : Int) = 0 → ((-128 ≤ (1 : Int) ∧ (1 : Int) < 128) ∧ Q 1 v)) ∧ (¬ (1 : Int) = 0 → ((-128 ≤ (0 : Int) ∧ (0 : Int) < 128) ∧ Q 0 v)))) : RR t d 266 [(2, (-19))] v Q := wp_sound (K := k_266) (cut := []) (f := 10) (cb := false) rfl h
set_option maxRecDepth 100000 in
theorem s_266_s17 {t : Int} {d : Nat} {v : Mem} {Q : Int → Mem → Prop} (h : Q 0 v) : RR t d 266 [(2, (-19))] v Q := w_266_s17 ⟨fun c => absurd c (by decide), fun _ => ⟨⟨by decide, by decide⟩, h⟩⟩
set_option maxRecDepth 100000 in
theorem w_262_s17 {t : Int} {d : Nat} {v : Mem} {Q : Int → Mem → Prop} (h : (RR t d 266 [(2, (-19))] v (fun x1 v1 => Q (ishr 5 x1) v1))) : RR t (d + 1) 262 [(2, (-19))] v Q := wp_sound (K := k_262) (cut := []) (f := 10) (cb := false) rfl h
set_option maxRecDepth 100000 in
theorem s_262_s17 {t : Int} {d : Nat} {v : Mem} {Q : Int → Mem → Prop} (h : Q 5 v) : RR t (d + 1) 262 [(2, (-19))] v Q := w_262_s17 (s_266_s17 h)
set_option maxRecDepth 100000 in
theorem w_267_s17 {t : Int} {d : Nat} {v : Mem} {Q : Int → Mem → Prop} (h : (((1 : Int) = 0 → (((0 : Int) = 0 ∨ (0 : Int) = 1) ∧ Q 0 v)) ∧ (¬ (1 : Int) = 0 → (((0 : Int) = 0 → (((1 : Int) = 0 ∨ (1 : Int) = 1) ∧ Q 1 v)) ∧ (¬ (0 : Int) = 0 → (((0 : Int) = 0 ∨ (0 : Int) = 1) ∧ Q 0 v)))))) : RR t d 267 [(2, (-19))] v Q := wp_sound (K := k_267) (cut := []) (f := 12) (cb := false) rfl h
set_option maxRecDepth 100000 in
theorem s_267_s17 {t : Int} {d : Nat} {v : Mem} {Q : Int → Mem → Prop} (h : Q 1 v) : RR t d 267 [(2, (-19))] v Q := w_267_s17 ⟨fun c => absurd c (by decide), fun _ => ⟨fun _ => ⟨Or.inr rfl, h⟩, fun c => absurd (by decide) c⟩⟩
set_option maxRecDepth 100000 in
theorem w_269_s61 {t : Int} {d : Nat} {a1 : Int} {v : Mem} {Q : Int → Mem → Prop} (h : (RR t d 268 [(0, a1), (0, 5)] v (fun x1 v1 => ((0 ≤ a1 ∧ a1 < 5) ∧ ((0 ≤ (w16u (iand (List.getD (sB.getD 17 []) (Int.toNat a1) 0) 255)) ∧ (w16u (iand (List.getD (sB.getD 17 []) (Int.toNat a1) 0) 255)) < 65536) ∧ Q (w16u (iand (List.getD (sB.getD 17 []) (Int.toNat a1) 0) 255)) v1))))) : RR t (d + 1) 269 [(2, (-63)), (0, a1)] v Q := wp_sound (K := k_269) (cut := []) (f := 14) (cb := false) rfl h
set_option maxRecDepth 100000 in
theorem s_269_s61 {t : Int} {d : Nat} {a1 : Int} {v : Mem} {Q : Int → Mem → Prop} (h : ((a1 < 0 → False) ∧ (¬ a1 < 0 → ((a1 < 5 → ((0 ≤ (w16u (iand (List.getD (sB.getD 17 []) (Int.toNat a1) 0) 255)) ∧ (w16u (iand (List.getD (sB.getD 17 []) (Int.toNat a1) 0) 255)) < 65536) ∧ Q (w16u (iand (List.getD (sB.getD 17 []) (Int.toNat a1) 0) 255)) v)) ∧ (¬ a1 < 5 → False))))) : RR t (d + 2) 269 [(2, (-63)), (0, a1)] v Q := w_269_s61 (s_268 ⟨fun c1 => (h.1 c1), fun c1 => ⟨fun c2 => ⟨⟨by omega, by omega⟩, ⟨((h.2 c1).1 c2).1, ((h.2 c1).1 c2).2⟩⟩, fun c2 => ((h.2 c1).2 c2)⟩⟩)
set_option maxRecDepth 100000 in
theorem w_263_s17 {t : Int} {d : Nat} {a1 : Int} {v : Mem} {Q : Int → Mem → Prop} (h : (RR t d 267 [(2, (-19))] v (fun x1 v1 => ((x1 = 0 → False) ∧ (¬ x1 = 0 → (RR t d 269 [(2, (-63)), (0, a1)] v1 (fun x2 v2 => ((0 ≤ x2 ∧ x2 < 65536) ∧ Q x2 v2)))))))) : RR t (d + 1) 263 [(2, (-19)), (0, a1)] v Q := wp_sound (K := k_263) (cut := []) (f := 16) (cb := false) rfl h
set_option maxRecDepth 100000 in
theorem s_263_s17 {t : Int} {d : Nat} {a1 : Int} {v : Mem} {Q : Int → Mem → Prop} (h : ((a1 < 0 → False) ∧ (¬ a1 < 0 → ((a1 < 5 → ((0 ≤ (w16u (iand (List.getD (sB.getD 17 []) (Int.toNat a1) 0) 255)) ∧ (w16u (iand (List.getD (sB.getD 17 []) (Int.toNat a1) 0) 255)) < 65536) ∧ ((0 ≤ (w16u (iand (List.getD (sB.getD 17 []) (Int.toNat a1) 0) 255)) ∧ (w16u (iand (List.getD (sB.getD 17 []) (Int.toNat a1) 0) 255)) < 65536) ∧ Q (w16u (iand (List.getD (sB.getD 17 []) (Int.toNat a1) 0) 255)) v))) ∧ (¬ a1 < 5 → False))))) : RR t (d + 3) 263 [(2, (-19)), (0, a1)] v Q := w_263_s17 (s_267_s17 ⟨fun c => absurd c (by decide), fun _ => s_269_s61 ⟨fun c1 => (h.1 c1), fun c1 => ⟨fun c2 => ⟨((h.2 c1).1 c2).1, ⟨((h.2 c1).1 c2).2.1, ((h.2 c1).1 c2).2.2⟩⟩, fun c2 => ((h.2 c1).2 c2)⟩⟩⟩)
theorem p_263_s17 {t : Int} {d : Nat} {a1 : Int} {v : Mem} {Q : Int → Mem → Prop} (h : (0 ≤ a1 ∧ a1 < 5) ∧ Q (List.getD (sB.getD 17 []) (Int.toNat a1) 0) v) : RR t (d + 3) 263 [(2, (-19)), (0, a1)] v Q := by
  have e := chrE 17 (Int.toNat a1)
  have e2 := chr_r 17 (Int.toNat a1)
  refine s_263_s17 ?_
  simp only [e]
  exact ⟨fun c => absurd h.1.1 (by omega), fun c => ⟨fun c2 => ⟨⟨e2.1, by omega⟩, ⟨e2.1, by omega⟩, h.2⟩, fun c2 => absurd h.1.2 c2⟩⟩
set_option maxRecDepth 100000 in
theorem w_266_s18 {t : Int} {d : Nat} {v : Mem} {Q : Int → Mem → Prop} (h : (((1 : Int) = 0 → ((-128 ≤ (1 : Int) ∧ (1 : Int) < 128) ∧ Q 1 v)) ∧ (¬ (1 : Int) = 0 → ((-128 ≤ (0 : Int) ∧ (0 : Int) < 128) ∧ Q 0 v)))) : RR t d 266 [(2, (-20))] v Q := wp_sound (K := k_266) (cut := []) (f := 10) (cb := false) rfl h
set_option maxRecDepth 100000 in
theorem s_266_s18 {t : Int} {d : Nat} {v : Mem} {Q : Int → Mem → Prop} (h : Q 0 v) : RR t d 266 [(2, (-20))] v Q := w_266_s18 ⟨fun c => absurd c (by decide), fun _ => ⟨⟨by decide, by decide⟩, h⟩⟩
set_option maxRecDepth 100000 in
theorem w_262_s18 {t : Int} {d : Nat} {v : Mem} {Q : Int → Mem → Prop} (h : (RR t d 266 [(2, (-20))] v (fun x1 v1 => Q (ishr 6 x1) v1))) : RR t (d + 1) 262 [(2, (-20))] v Q := wp_sound (K := k_262) (cut := []) (f := 10) (cb := false) rfl h
set_option maxRecDepth 100000 in
theorem s_262_s18 {t : Int} {d : Nat} {v : Mem} {Q : Int → Mem → Prop} (h : Q 6 v) : RR t (d + 1) 262 [(2, (-20))] v Q := w_262_s18 (s_266_s18 h)
set_option maxRecDepth 100000 in
theorem w_267_s18 {t : Int} {d : Nat} {v : Mem} {Q : Int → Mem → Prop} (h : (((1 : Int) = 0 → (((0 : Int) = 0 ∨ (0 : Int) = 1) ∧ Q 0 v)) ∧ (¬ (1 : Int) = 0 → (((0 : Int) = 0 → (((1 : Int) = 0 ∨ (1 : Int) = 1) ∧ Q 1 v)) ∧ (¬ (0 : Int) = 0 → (((0 : Int) = 0 ∨ (0 : Int) = 1) ∧ Q 0 v)))))) : RR t d 267 [(2, (-20))] v Q := wp_sound (K := k_267) (cut := []) (f := 12) (cb := false) rfl h
set_option maxRecDepth 100000 in
theorem s_267_s18 {t : Int} {d : Nat} {v : Mem} {Q : Int → Mem → Prop} (h : Q 1 v) : RR t d 267 [(2, (-20))] v Q := w_267_s18 ⟨fun c => absurd c (by decide), fun _ => ⟨fun _ => ⟨Or.inr rfl, h⟩, fun c => absurd (by decide) c⟩⟩
set_option maxRecDepth 100000 in
theorem w_269_s62 {t : Int} {d : Nat} {a1 : Int} {v : Mem} {Q : Int → Mem → Prop} (h : (RR t d 268 [(0, a1), (0, 6)] v (fun x1 v1 => ((0 ≤ a1 ∧ a1 < 6) ∧ ((0 ≤ (w16u (iand (List.getD (sB.getD 18 []) (Int.toNat a1) 0) 255)) ∧ (w16u (iand (List.getD (sB.getD 18 []) (Int.toNat a1) 0) 255)) < 65536) ∧ Q (w16u (iand (List.getD (sB.getD 18 []) (Int.toNat a1) 0) 255)) v1))))) : RR t (d + 1) 269 [(2, (-64)), (0, a1)] v Q := wp_sound (K := k_269) (cut := []) (f := 14) (cb := false) rfl h
set_option maxRecDepth 100000 in
theorem s_269_s62 {t : Int} {d : Nat} {a1 : Int} {v : Mem} {Q : Int → Mem → Prop} (h : ((a1 < 0 → False) ∧ (¬ a1 < 0 → ((a1 < 6 → ((0 ≤ (w16u (iand (List.getD (sB.getD 18 []) (Int.toNat a1) 0) 255)) ∧ (w16u (iand (List.getD (sB.getD 18 []) (Int.toNat a1) 0) 255)) < 65536) ∧ Q (w16u (iand (List.getD (sB.getD 18 []) (Int.toNat a1) 0) 255)) v)) ∧ (¬ a1 < 6 → False))))) : RR t (d + 2) 269 [(2, (-64)), (0, a1)] v Q := w_269_s62 (s_268 ⟨fun c1 => (h.1 c1), fun c1 => ⟨fun c2 => ⟨⟨by omega, by omega⟩, ⟨((h.2 c1).1 c2).1, ((h.2 c1).1 c2).2⟩⟩, fun c2 => ((h.2 c1).2 c2)⟩⟩)
set_option maxRecDepth 100000 in
theorem w_263_s18 {t : Int} {d : Nat} {a1 : Int} {v : Mem} {Q : Int → Mem → Prop} (h : (RR t d 267 [(2, (-20))] v (fun x1 v1 => ((x1 = 0 → False) ∧ (¬ x1 = 0 → (RR t d 269 [(2, (-64)), (0, a1)] v1 (fun x2 v2 => ((0 ≤ x2 ∧ x2 < 65536) ∧ Q x2 v2)))))))) : RR t (d + 1) 263 [(2, (-20)), (0, a1)] v Q := wp_sound (K := k_263) (cut := []) (f := 16) (cb := false) rfl h
set_option maxRecDepth 100000 in
theorem s_263_s18 {t : Int} {d : Nat} {a1 : Int} {v : Mem} {Q : Int → Mem → Prop} (h : ((a1 < 0 → False) ∧ (¬ a1 < 0 → ((a1 < 6 → ((0 ≤ (w16u (iand (List.getD (sB.getD 18 []) (Int.toNat a1) 0) 255)) ∧ (w16u (iand (List.getD (sB.getD 18 []) (Int.toNat a1) 0) 255)) < 65536) ∧ ((0 ≤ (w16u (iand (List.getD (sB.getD 18 []) (Int.toNat a1) 0) 255)) ∧ (w16u (iand (List.getD (sB.getD 18 []) (Int.toNat a1) 0) 255)) < 65536) ∧ Q (w16u (iand (List.getD (sB.getD 18 []) (Int.toNat a1) 0) 255)) v))) ∧ (¬ a1 < 6 → False))))) : RR t (d + 3) 263 [(2, (-20)), (0, a1)] v Q := w_263_s18 (s_267_s18 ⟨fun c => absurd c (by decide), fun _ => s_269_s62 ⟨fun c1 => (h.1 c1), fun c1 => ⟨fun c2 => ⟨((h.2 c1).1 c2).1, ⟨((h.2 c1).1 c2).2.1, ((h.2 c1).1 c2).2.2⟩⟩, fun c2 => ((h.2 c1).2 c2)⟩⟩⟩)
theorem p_263_s18 {t : Int} {d : Nat} {a1 : Int} {v : Mem} {Q : Int → Mem → Prop} (h : (0 ≤ a1 ∧ a1 < 6) ∧ Q (List.getD (sB.getD 18 []) (Int.toNat a1) 0) v) : RR t (d + 3) 263 [(2, (-20)), (0, a1)] v Q := by
  have e := chrE 18 (Int.toNat a1)
  have e2 := chr_r 18 (Int.toNat a1)
  refine s_263_s18 ?_
  simp only [e]
  exact ⟨fun c => absurd h.1.1 (by omega), fun c => ⟨fun c2 => ⟨⟨e2.1, by omega⟩, ⟨e2.1, by omega⟩, h.2⟩, fun c2 => absurd h.1.2 c2⟩⟩
set_option maxRecDepth 100000 in
theorem w_266_s19 {t : Int} {d : Nat} {v : Mem} {Q : Int → Mem → Prop} (h : (((1 : Int) = 0 → ((-128 ≤ (1 : Int) ∧ (1 : Int) < 128) ∧ Q 1 v)) ∧ (¬ (1 : Int) = 0 → ((-128 ≤ (0 : Int) ∧ (0 : Int) < 128) ∧ Q 0 v)))) : RR t d 266 [(2, (-21))] v Q := wp_sound (K := k_266) (cut := []) (f := 10) (cb := false) rfl h
set_option maxRecDepth 100000 in
theorem s_266_s19 {t : Int} {d : Nat} {v : Mem} {Q : Int → Mem → Prop} (h : Q 0 v) : RR t d 266 [(2, (-21))] v Q := w_266_s19 ⟨fun c => absurd c (by decide), fun _ => ⟨⟨by decide, by decide⟩, h⟩⟩
set_option maxRecDepth 100000 in
theorem w_262_s19 {t : Int} {d : Nat} {v : Mem} {Q : Int → Mem → Prop} (h : (RR t d 266 [(2, (-21))] v (fun x1 v1 => Q (ishr 5 x1) v1))) : RR t (d + 1) 262 [(2, (-21))] v Q := wp_sound (K := k_262) (cut := []) (f := 10) (cb := false) rfl h
set_option maxRecDepth 100000 in
theorem s_262_s19 {t : Int} {d : Nat} {v : Mem} {Q : Int → Mem → Prop} (h : Q 5 v) : RR t (d + 1) 262 [(2, (-21))] v Q := w_262_s19 (s_266_s19 h)
set_option maxRecDepth 100000 in
theorem w_267_s19 {t : Int} {d : Nat} {v : Mem} {Q : Int → Mem → Prop} (h : (((1 : Int) = 0 → (((0 : Int) = 0 ∨ (0 : Int) = 1) ∧ Q 0 v)) ∧ (¬ (1 : Int) = 0 → (((0 : Int) = 0 → (((1 : Int) = 0 ∨ (1 : Int) = 1) ∧ Q 1 v)) ∧ (¬ (0 : Int) = 0 → (((0 : Int) = 0 ∨ (0 : Int) = 1) ∧ Q 0 v)))))) : RR t d 267 [(2, (-21))] v Q := wp_sound (K := k_267) (cut := []) (f := 12) (cb := false) rfl h
set_option maxRecDepth 100000 in
theorem s_267_s19 {t : Int} {d : Nat} {v : Mem} {Q : Int → Mem → Prop} (h : Q 1 v) : RR t d 267 [(2, (-21))] v Q := w_267_s19 ⟨fun c => absurd c (by decide), fun _ => ⟨fun _ => ⟨Or.inr rfl, h⟩, fun c => absurd (by decide) c⟩⟩
set_option maxRecDepth 100000 in
theorem w_269_s63 {t : Int} {d : Nat} {a1 : Int} {v : Mem} {Q : Int → Mem → Prop} (h : (RR t d 268 [(0, a1), (0, 5)] v (fun x1 v1 => ((0 ≤ a1 ∧ a1 < 5) ∧ ((0 ≤ (w16u (iand (List.getD (sB.getD 19 []) (Int.toNat a1) 0) 255)) ∧ (w16u (iand (List.getD (sB.getD 19 []) (Int.toNat a1) 0) 255)) < 65536) ∧ Q (w16u (iand (List.getD (sB.getD 19 []) (Int.toNat a1) 0) 255)) v1))))) : RR t (d + 1) 269 [(2, (-65)), (0, a1)] v Q := wp_sound (K := k_269) (cut := []) (f := 14) (cb := false) rfl h
set_option maxRecDepth 100000 in
theorem s_269_s63 {t : Int} {d : Nat} {a1 : Int} {v : Mem} {Q : Int → Mem → Prop} (h : ((a1 < 0 → False) ∧ (¬ a1 < 0 → ((a1 < 5 → ((0 ≤ (w16u (iand (List.getD (sB.getD 19 []) (Int.toNat a1) 0) 255)) ∧ (w16u (iand (List.getD (sB.getD 19 []) (Int.toNat a1) 0) 255)) < 65536) ∧ Q (w16u (iand (List.getD (sB.getD 19 []) (Int.toNat a1) 0) 255)) v)) ∧ (¬ a1 < 5 → False))))) : RR t (d + 2) 269 [(2, (-65)), (0, a1)] v Q := w_269_s63 (s_268 ⟨fun c1 => (h.1 c1), fun c1 => ⟨fun c2 => ⟨⟨by omega, by omega⟩, ⟨((h.2 c1).1 c2).1, ((h.2 c1).1 c2).2⟩⟩, fun c2 => ((h.2 c1).2 c2)⟩⟩)
set_option maxRecDepth 100000 in
theorem w_263_s19 {t : Int} {d : Nat} {a1 : Int} {v : Mem} {Q : Int → Mem → Prop} (h : (RR t d 267 [(2, (-21))] v (fun x1 v1 => ((x1 = 0 → False) ∧ (¬ x1 = 0 → (RR t d 269 [(2, (-65)), (0, a1)] v1 (fun x2 v2 => ((0 ≤ x2 ∧ x2 < 65536) ∧ Q x2 v2)))))))) : RR t (d + 1) 263 [(2, (-21)), (0, a1)] v Q := wp_sound (K := k_263) (cut := []) (f := 16) (cb := false) rfl h
set_option maxRecDepth 100000 in
theorem s_263_s19 {t : Int} {d : Nat} {a1 : Int} {v : Mem} {Q : Int → Mem → Prop} (h : ((a1 < 0 → False) ∧ (¬ a1 < 0 → ((a1 < 5 → ((0 ≤ (w16u (iand (List.getD (sB.getD 19 []) (Int.toNat a1) 0) 255)) ∧ (w16u (iand (List.getD (sB.getD 19 []) (Int.toNat a1) 0) 255)) < 65536) ∧ ((0 ≤ (w16u (iand (List.getD (sB.getD 19 []) (Int.toNat a1) 0) 255)) ∧ (w16u (iand (List.getD (sB.getD 19 []) (Int.toNat a1) 0) 255)) < 65536) ∧ Q (w16u (iand (List.getD (sB.getD 19 []) (Int.toNat a1) 0) 255)) v))) ∧ (¬ a1 < 5 → False))))) : RR t (d + 3) 263 [(2, (-21)), (0, a1)] v Q := w_263_s19 (s_267_s19 ⟨fun c => absurd c (by decide), fun _ => s_269_s63 ⟨fun c1 => (h.1 c1), fun c1 => ⟨fun c2 => ⟨((h.2 c1).1 c2).1, ⟨((h.2 c1).1 c2).2.1, ((h.2 c1).1 c2).2.2⟩⟩, fun c2 => ((h.2 c1).2 c2)⟩⟩⟩)
theorem p_263_s19 {t : Int} {d : Nat} {a1 : Int} {v : Mem} {Q : Int → Mem → Prop} (h : (0 ≤ a1 ∧ a1 < 5) ∧ Q (List.getD (sB.getD 19 []) (Int.toNat a1) 0) v) : RR t (d + 3) 263 [(2, (-21)), (0, a1)] v Q := by
  have e := chrE 19 (Int.toNat a1)
  have e2 := chr_r 19 (Int.toNat a1)
  refine s_263_s19 ?_
  simp only [e]
  exact ⟨fun c => absurd h.1.1 (by omega), fun c => ⟨fun c2 => ⟨⟨e2.1, by omega⟩, ⟨e2.1, by omega⟩, h.2⟩, fun c2 => absurd h.1.2 c2⟩⟩
set_option maxRecDepth 100000 in
theorem w_266_s20 {t : Int} {d : Nat} {v : Mem} {Q : Int → Mem → Prop} (h : (((1 : Int) = 0 → ((-128 ≤ (1 : Int) ∧ (1 : Int) < 128) ∧ Q 1 v)) ∧ (¬ (1 : Int) = 0 → ((-128 ≤ (0 : Int) ∧ (0 : Int) < 128) ∧ Q 0 v)))) : RR t d 266 [(2, (-22))] v Q := wp_sound (K := k_266) (cut := []) (f := 10) (cb := false) rfl h
set_option maxRecDepth 100000 in
theorem s_266_s20 {t : Int} {d : Nat} {v : Mem} {Q : Int → Mem → Prop} (h : Q 0 v) : RR t d 266 [(2, (-22))] v Q := w_266_s20 ⟨fun c => absurd c (by decide), fun _ => ⟨⟨by decide, by decide⟩, h⟩⟩
set_option maxRecDepth 100000 in
theorem w_262_s20 {t : Int} {d : Nat} {v : Mem} {Q : Int → Mem → Prop} (h : (RR t d 266 [(2, (-22))] v (fun x1 v1 => Q (ishr 2 x1) v1))) : RR t (d + 1) 262 [(2, (-22))] v Q := wp_sound (K := k_262) (cut := []) (f := 10) (cb := false) rfl h
set_option maxRecDepth 100000 in
theorem s_262_s20 {t : Int} {d : Nat} {v : Mem} {Q : Int → Mem → Prop} (h : Q 2 v) : RR t (d + 1) 262 [(2, (-22))] v Q := w_262_s20 (s_266_s20 h)
set_option maxRecDepth 100000 in
theorem w_267_s20 {t : Int} {d : Nat} {v : Mem} {Q : Int → Mem → Prop} (h : (((1 : Int) = 0 → (((0 : Int) = 0 ∨ (0 : Int) = 1) ∧ Q 0 v)) ∧ (¬ (1 : Int) = 0 → (((0 : Int) = 0 → (((1 : Int) = 0 ∨ (1 : Int) = 1) ∧ Q 1 v)) ∧ (¬ (0 : Int) = 0 → (((0 : Int) = 0 ∨ (0 : Int) = 1) ∧ Q 0 v)))))) : RR t d 267 [(2, (-22))] v Q := wp_sound (K := k_267) (cut := []) (f := 12) (cb := false) rfl h
set_option maxRecDepth 100000 in
theorem s_267_s20 {t : Int} {d : Nat} {v : Mem} {Q : Int → Mem → Prop} (h : Q 1 v) : RR t d 267 [(2, (-22))] v Q := w_267_s20 ⟨fun c => absurd c (by decide), fun _ => ⟨fun _ => ⟨Or.inr rfl, h⟩, fun c => absurd (by decide) c⟩⟩
set_option maxRecDepth 100000 in
theorem w_269_s64 {t : Int} {d : Nat} {a1 : Int} {v : Mem} {Q : Int → Mem → Prop} (h : (RR t d 268 [(0, a1), (0, 2)] v (fun x1 v1 => ((0 ≤ a1 ∧ a1 < 2) ∧ ((0 ≤ (w16u (iand (List.getD (sB.getD 20 []) (Int.toNat a1) 0) 255)) ∧ (w16u (iand (List.getD (sB.getD 20 []) (Int.toNat a1) 0) 255)) < 65536) ∧ Q (w16u (iand (List.getD (sB.getD 20 []) (Int.toNat a1) 0) 255)) v1))))) : RR t (d + 1) 269 [(2, (-66)), (0, a1)] v Q := wp_sound (K := k_269) (cut := []) (f := 14) (cb := false) rfl h
set_option maxRecDepth 100000 in
theorem s_269_s64 {t : Int} {d : Nat} {a1 : Int} {v : Mem} {Q : Int → Mem → Prop} (h : ((a1 < 0 → False) ∧ (¬ a1 < 0 → ((a1 < 2 → ((0 ≤ (w16u (iand (List.getD (sB.getD 20 []) (Int.toNat a1) 0) 255)) ∧ (w16u (iand (List.getD (sB.getD 20 []) (Int.toNat a1) 0) 255)) < 65536) ∧ Q (w16u (iand (List.getD (sB.getD 20 []) (Int.toNat a1) 0) 255)) v)) ∧ (¬ a1 < 2 → False))))) : RR t (d + 2) 269 [(2, (-66)), (0, a1)] v Q := w_269_s64 (s_268 ⟨fun c1 => (h.1 c1), fun c1 => ⟨fun c2 => ⟨⟨by omega, by omega⟩, ⟨((h.2 c1).1 c2).1, ((h.2 c1).1 c2).2⟩⟩, fun c2 => ((h.2 c1).2 c2)⟩⟩)
set_option maxRecDepth 100000 in
theorem w_263_s20 {t : Int} {d : Nat} {a1 : Int} {v : Mem} {Q : Int → Mem → Prop} (h : (RR t d 267 [(2, (-22))] v (fun x1 v1 => ((x1 = 0 → False) ∧ (¬ x1 = 0 → (RR t d 269 [(2, (-66)), (0, a1)] v1 (fun x2 v2 => ((0 ≤ x2 ∧ x2 < 65536) ∧ Q x2 v2)))))))) : RR t (d + 1) 263 [(2, (-22)), (0, a1)] v Q := wp_sound (K := k_263) (cut := []) (f := 16) (cb := false) rfl h
set_option maxRecDepth 100000 in
theorem s_263_s20 {t : Int} {d : Nat} {a1 : Int} {v : Mem} {Q : Int → Mem → Prop} (h : ((a1 < 0 → False) ∧ (¬ a1 < 0 → ((a1 < 2 → ((0 ≤ (w16u (iand (List.getD (sB.getD 20 []) (Int.toNat a1) 0) 255)) ∧ (w16u (iand (List.getD (sB.getD 20 []) (Int.toNat a1) 0) 255)) < 65536) ∧ ((0 ≤ (w16u (iand (List.getD (sB.getD 20 []) (Int.toNat a1) 0) 255)) ∧ (w16u (iand (List.getD (sB.getD 20 []) (Int.toNat a1) 0) 255)) < 65536) ∧ Q (w16u (iand (List.getD (sB.getD 20 []) (Int.toNat a1) 0) 255)) v))) ∧ (¬ a1 < 2 → False))))) : RR t (d + 3) 263 [(2, (-22)), (0, a1)] v Q := w_263_s20 (s_267_s20 ⟨fun c => absurd c (by decide), fun _ => s_269_s64 ⟨fun c1 => (h.1 c1), fun c1 => ⟨fun c2 => ⟨((h.2 c1).1 c2).1, ⟨((h.2 c1).1 c2).2.1, ((h.2 c1).1 c2).2.2⟩⟩, fun c2 => ((h.2 c1).2 c2)⟩⟩⟩)
theorem p_263_s20 {t : Int} {d : Nat} {a1 : Int} {v : Mem} {Q : Int → Mem → Prop} (h : (0 ≤ a1 ∧ a1 < 2) ∧ Q (List.getD (sB.getD 20 []) (Int.toNat a1) 0) v) : RR t (d + 3) 263 [(2, (-22)), (0, a1)] v Q := by
  have e := chrE 20 (Int.toNat a1)
  have e2 := chr_r 20 (Int.toNat a1)
  refine s_263_s20 ?_
  simp only [e]
  exact ⟨fun c => absurd h.1.1 (by omega), fun c => ⟨fun c2 => ⟨⟨e2.1, by omega⟩, ⟨e2.1, by omega⟩, h.2⟩, fun c2 => absurd h.1.2 c2⟩⟩
set_option maxRecDepth 100000 in
theorem w_266_s21 {t : Int} {d : Nat} {v : Mem} {Q : Int → Mem → Prop} (h : (((1 : Int) = 0 → ((-128 ≤ (1 : Int) ∧ (1 : Int) < 128) ∧ Q 1 v)) ∧ (¬ (1 : Int) = 0 → ((-128 ≤ (0 : Int) ∧ (0 : Int) < 128) ∧ Q 0 v)))) : RR t d 266 [(2, (-23))] v Q := wp_sound (K := k_266) (cut := []) (f := 10) (cb := false) rfl h
set_option maxRecDepth 100000 in
theorem s_266_s21 {t : Int} {d : Nat} {v : Mem} {Q : Int → Mem → Prop} (h : Q 0 v) : RR t d 266 [(2, (-23))] v Q := w_266_s21 ⟨fun c => absurd c (by decide), fun _ => ⟨⟨by decide, by decide⟩, h⟩⟩
set_option maxRecDepth 100000 in
theorem w_262_s21 {t : Int} {d : Nat} {v : Mem} {Q : Int → Mem → Prop} (h : (RR t d 266 [(2, (-23))] v (fun x1 v1 => Q (ishr 1 x1) v1))) : RR t (d + 1) 262 [(2, (-23))] v Q := wp_sound (K := k_262) (cut := []) (f := 10) (cb := false) rfl h
set_option maxRecDepth 100000 in
theorem s_262_s21 {t : Int} {d : Nat} {v : Mem} {Q : Int → Mem → Prop} (h : Q 1 v) : RR t (d + 1) 262 [(2, (-23))] v Q := w_262_s21 (s_266_s21 h)
set_option maxRecDepth 100000 in
theorem w_267_s21 {t : Int} {d : Nat} {v : Mem} {Q : Int → Mem → Prop} (h : (((1 : Int) = 0 → (((0 : Int) = 0 ∨ (0 : Int) = 1) ∧ Q 0 v)) ∧ (¬ (1 : Int) = 0 → (((0 : Int) = 0 → (((1 : Int) = 0 ∨ (1 : Int) = 1) ∧ Q 1 v)) ∧ (¬ (0 : Int) = 0 → (((0 : Int) = 0 ∨ (0 : Int) = 1) ∧ Q 0 v)))))) : RR t d 267 [(2, (-23))] v Q := wp_sound (K := k_267) (cut := []) (f := 12) (cb := false) rfl h
set_option maxRecDepth 100000 in
theorem s_267_s21 {t : Int} {d : Nat} {v : Mem} {Q : Int → Mem → Prop} (h : Q 1 v) : RR t d 267 [(2, (-23))] v Q := w_267_s21 ⟨fun c => absurd c (by decide), fun _ => ⟨fun _ => ⟨Or.inr rfl, h⟩, fun c => absurd (by decide) c⟩⟩
set_option maxRecDepth 100000 in
theorem w_269_s65 {t : Int} {d : Nat} {a1 : Int} {v : Mem} {Q : Int → Mem → Prop} (h : (RR t d 268 [(0, a1), (0, 1)] v (fun x1 v1 => ((0 ≤ a1 ∧ a1 < 1) ∧ ((0 ≤ (w16u (iand (List.getD (sB.getD 21 []) (Int.toNat a1) 0) 255)) ∧ (w16u (iand (List.getD (sB.getD 21 []) (Int.toNat a1) 0) 255)) < 65536) ∧ Q (w16u (iand (List.getD (sB.getD 21 []) (Int.toNat a1) 0) 255)) v1))))) : RR t (d + 1) 269 [(2, (-67)), (0, a1)] v Q := wp_sound (K := k_269) (cut := []) (f := 14) (cb := false) rfl h
set_option maxRecDepth 100000 in
theorem s_269_s65 {t : Int} {d : Nat} {a1 : Int} {v : Mem} {Q : Int → Mem → Prop} (h : ((a1 < 0 → False) ∧ (¬ a1 < 0 → ((a1 < 1 → ((0 ≤ (w16u (iand (List.getD (sB.getD 21 []) (Int.toNat a1) 0) 255)) ∧ (w16u (iand (List.getD (sB.getD 21 []) (Int.toNat a1) 0) 255)) < 65536) ∧ Q (w16u (iand (List.getD (sB.getD 21 []) (Int.toNat a1) 0) 255)) v)) ∧ (¬ a1 < 1 → False))))) : RR t (d + 2) 269 [(2, (-67)), (0, a1)] v Q := w_269_s65 (s_268 ⟨fun c1 => (h.1 c1), fun c1 => ⟨fun c2 => ⟨⟨by omega, by omega⟩, ⟨((h.2 c1).1 c2).1, ((h.2 c1).1 c2).2⟩⟩, fun c2 => ((h.2 c1).2 c2)⟩⟩)
set_option maxRecDepth 100000 in
theorem w_263_s21 {t : Int} {d : Nat} {a1 : Int} {v : Mem} {Q : Int → Mem → Prop} (h : (RR t d 267 [(2, (-23))] v (fun x1 v1 => ((x1 = 0 → False) ∧ (¬ x1 = 0 → (RR t d 269 [(2, (-67)), (0, a1)] v1 (fun x2 v2 => ((0 ≤ x2 ∧ x2 < 65536) ∧ Q x2 v2)))))))) : RR t (d + 1) 263 [(2, (-23)), (0, a1)] v Q := wp_sound (K := k_263) (cut := []) (f := 16) (cb := false) rfl h
set_option maxRecDepth 100000 in
theorem s_263_s21 {t : Int} {d : Nat} {a1 : Int} {v : Mem} {Q : Int → Mem → Prop} (h : ((a1 < 0 → False) ∧ (¬ a1 < 0 → ((a1 < 1 → ((0 ≤ (w16u (iand (List.getD (sB.getD 21 []) (Int.toNat a1) 0) 255)) ∧ (w16u (iand (List.getD (sB.getD 21 []) (Int.toNat a1) 0) 255)) < 65536) ∧ ((0 ≤ (w16u (iand (List.getD (sB.getD 21 []) (Int.toNat a1) 0) 255)) ∧ (w16u (iand (List.getD (sB.getD 21 []) (Int.toNat a1) 0) 255)) < 65536) ∧ Q (w16u (iand (List.getD (sB.getD 21 []) (Int.toNat a1) 0) 255)) v))) ∧ (¬ a1 < 1 → False))))) : RR t (d + 3) 263 [(2, (-23)), (0, a1)] v Q := w_263_s21 (s_267_s21 ⟨fun c => absurd c (by decide), fun _ => s_269_s65 ⟨fun c1 => (h.1 c1), fun c1 => ⟨fun c2 => ⟨((h.2 c1).1 c2).1, ⟨((h.2 c1).1 c2).2.1, ((h.2 c1).1 c2).2.2⟩⟩, fun c2 => ((h.2 c1).2 c2)⟩⟩⟩)
theorem p_263_s21 {t : Int} {d : Nat} {a1 : Int} {v : Mem} {Q : Int → Mem → Prop} (h : (0 ≤ a1 ∧ a1 < 1) ∧ Q (List.getD (sB.getD 21 []) (Int.toNat a1) 0) v) : RR t (d + 3) 263 [(2, (-23)), (0, a1)] v Q := by
  have e := chrE 21 (Int.toNat a1)
  have e2 := chr_r 21 (Int.toNat a1)
  refine s_263_s21 ?_
  simp only [e]
  exact ⟨fun c => absurd h.1.1 (by omega), fun c => ⟨fun c2 => ⟨⟨e2.1, by omega⟩, ⟨e2.1, by omega⟩, h.2⟩, fun c2 => absurd h.1.2 c2⟩⟩
set_option maxRecDepth 100000 in
theorem w_266_s22 {t : Int} {d : Nat} {v : Mem} {Q : Int → Mem → Prop} (h : (((1 : Int) = 0 → ((-128 ≤ (1 : Int) ∧ (1 : Int) < 128) ∧ Q 1 v)) ∧ (¬ (1 : Int) = 0 → ((-128 ≤ (0 : Int) ∧ (0 : Int) < 128) ∧ Q 0 v)))) : RR t d 266 [(2, (-24))] v Q := wp_sound (K := k_266) (cut := []) (f := 10) (cb := false) rfl h
set_option maxRecDepth 100000 in
theorem s_266_s22 {t : Int} {d : Nat} {v : Mem} {Q : Int → Mem → Prop} (h : Q 0 v) : RR t d 266 [(2, (-24))] v Q := w_266_s22 ⟨fun c => absurd c (by decide), fun _ => ⟨⟨by decide, by decide⟩, h⟩⟩
set_option maxRecDepth 100000 in
theorem w_262_s22 {t : Int} {d : Nat} {v : Mem} {Q : Int → Mem → Prop} (h : (RR t d 266 [(2, (-24))] v (fun x1 v1 => Q (ishr 1 x1) v1))) : RR t (d + 1) 262 [(2, (-24))] v Q := wp_sound (K := k_262) (cut := []) (f := 10) (cb := false) rfl h
set_option maxRecDepth 100000 in
theorem s_262_s22 {t : Int} {d : Nat} {v : Mem} {Q : Int → Mem → Prop} (h : Q 1 v) : RR t (d + 1) 262 [(2, (-24))] v Q := w_262_s22 (s_266_s22 h)
set_option maxRecDepth 100000 in
theorem w_267_s22 {t : Int} {d : Nat} {v : Mem} {Q : Int → Mem → Prop} (h : (((1 : Int) = 0 → (((0 : Int) = 0 ∨ (0 : Int) = 1) ∧ Q 0 v)) ∧ (¬ (1 : Int) = 0 → (((0 : Int) = 0 → (((1 : Int) = 0 ∨ (1 : Int) = 1) ∧ Q 1 v)) ∧ (¬ (0 : Int) = 0 → (((0 : Int) = 0 ∨ (0 : Int) = 1) ∧ Q 0 v)))))) : RR t d 267 [(2, (-24))] v Q := wp_sound (K := k_267) (cut := []) (f := 12) (cb := false) rfl h
set_option maxRecDepth 100000 in
theorem s_267_s22 {t : Int} {d : Nat} {v : Mem} {Q : Int → Mem → Prop} (h : Q 1 v) : RR t d 267 [(2, (-24))] v Q := w_267_s22 ⟨fun c => absurd c (by decide), fun _ => ⟨fun _ => ⟨Or.inr rfl, h⟩, fun c => absurd (by decide) c⟩⟩
set_option maxRecDepth 100000 in
theorem w_269_s66 {t : Int} {d : Nat} {a1 : Int} {v : Mem} {Q : Int → Mem → Prop} (h : (RR t d 268 [(0, a1), (0, 1)] v (fun x1 v1 => ((0 ≤ a1 ∧ a1 < 1) ∧ ((0 ≤ (w16u (iand (List.getD (sB.getD 22 []) (Int.toNat a1) 0) 255)) ∧ (w16u (iand (List.getD (sB.getD 22 []) (Int.toNat a1) 0) 255)) < 65536) ∧ Q (w16u (iand (List.getD (sB.getD 22 []) (Int.toNat a1) 0) 255)) v1))))) : RR t (d + 1) 269 [(2, (-68)), (0, a1)] v Q := wp_sound (K := k_269) (cut := []) (f := 14) (cb := false) rfl h
set_option maxRecDepth 100000 in
theorem s_269_s66 {t : Int} {d : Nat} {a1 : Int} {v : Mem} {Q : Int → Mem → Prop} (h : ((a1 < 0 → False) ∧ (¬ a1 < 0 → ((a1 < 1 → ((0 ≤ (w16u (iand (List.getD (sB.getD 22 []) (Int.toNat a1) 0) 255)) ∧ (w16u (iand (List.getD (sB.getD 22 []) (Int.toNat a1) 0) 255)) < 65536) ∧ Q (w16u (iand (List.getD (sB.getD 22 []) (Int.toNat a1) 0) 255)) v)) ∧ (¬ a1 < 1 → False))))) : RR t (d + 2) 269 [(2, (-68)), (0, a1)] v Q := w_269_s66 (s_268 ⟨fun c1 => (h.1 c1), fun c1 => ⟨fun c2 => ⟨⟨by omega, by omega⟩, ⟨((h.2 c1).1 c2).1, ((h.2 c1).1 c2).2⟩⟩, fun c2 => ((h.2 c1).2 c2)⟩⟩)
set_option maxRecDepth 100000 in
theorem w_263_s22 {t : Int} {d : Nat} {a1 : Int} {v : Mem} {Q : Int → Mem → Prop} (h : (RR t d 267 [(2, (-24))] v (fun x1 v1 => ((x1 = 0 → False) ∧ (¬ x1 = 0 → (RR t d 269 [(2, (-68)), (0, a1)] v1 (fun x2 v2 => ((0 ≤ x2 ∧ x2 < 65536) ∧ Q x2 v2)))))))) : RR t (d + 1) 263 [(2, (-24)), (0, a1)] v Q := wp_sound (K := k_263) (cut := []) (f := 16) (cb := false) rfl h
set_option maxRecDepth 100000 in
theorem s_263_s22 {t : Int} {d : Nat} {a1 : Int} {v : Mem} {Q : Int → Mem → Prop} (h : ((a1 < 0 → False) ∧ (¬ a1 < 0 → ((a1 < 1 → ((0 ≤ (w16u (iand (List.getD (sB.getD 22 []) (Int.toNat a1) 0) 255)) ∧ (w16u (iand (List.getD (sB.getD 22 []) (Int.toNat a1) 0) 255)) < 65536) ∧ ((0 ≤ (w16u (iand (List.getD (sB.getD 22 []) (Int.toNat a1) 0) 255)) ∧ (w16u (iand (List.getD (sB.getD 22 []) (Int.toNat a1) 0) 255)) < 65536) ∧ Q (w16u (iand (List.getD (sB.getD 22 []) (Int.toNat a1) 0) 255)) v))) ∧ (¬ a1 < 1 → False))))) : RR t (d + 3) 263 [(2, (-24)), (0, a1)] v Q := w_263_s22 (s_267_s22 ⟨fun c => absurd c (by decide), fun _ => s_269_s66 ⟨fun c1 => (h.1 c1), fun c1 => ⟨fun c2 => ⟨((h.2 c1).1 c2).1, ⟨((h.2 c1).1 c2).2.1, ((h.2 c1).1 c2).2.2⟩⟩, fun c2 => ((h.2 c1).2 c2)⟩⟩⟩)
theorem p_263_s22 {t : Int} {d : Nat} {a1 : Int} {v : Mem} {Q : Int → Mem → Prop} (h : (0 ≤ a1 ∧ a1 < 1) ∧ Q (List.getD (sB.getD 22 []) (Int.toNat a1) 0) v) : RR t (d + 3) 263 [(2, (-24)), (0, a1)] v Q := by
  have e := chrE 22 (Int.toNat a1)
  have e2 := chr_r 22 (Int.toNat a1)
  refine s_263_s22 ?_
  simp only [e]
  exact ⟨fun c => absurd h.1.1 (by omega), fun c => ⟨fun c2 => ⟨⟨e2.1, by omega⟩, ⟨e2.1, by omega⟩, h.2⟩, fun c2 => absurd h.1.2 c2⟩⟩
set_option maxRecDepth 100000 in
theorem w_266_s23 {t : Int} {d : Nat} {v : Mem} {Q : Int → Mem → Prop} (h : (((1 : Int) = 0 → ((-128 ≤ (1 : Int) ∧ (1 : Int) < 128) ∧ Q 1 v)) ∧ (¬ (1 : Int) = 0 → ((-128 ≤ (0 : Int) ∧ (0 : Int) < 128) ∧ Q 0 v)))) : RR t d 266 [(2, (-25))] v Q := wp_sound (K := k_266) (cut := []) (f := 10) (cb := false) rfl h
set_option maxRecDepth 100000 in
theorem s_266_s23 {t : Int} {d : Nat} {v : Mem} {Q : Int → Mem → Prop} (h : Q 0 v) : RR t d 266 [(2, (-25))] v Q := w_266_s23 ⟨fun c => absurd c (by decide), fun _ => ⟨⟨by decide, by decide⟩, h⟩⟩
set_option maxRecDepth 100000 in
theorem w_262_s23 {t : Int} {d : Nat} {v : Mem} {Q : Int → Mem → Prop} (h : (RR t d 266 [(2, (-25))] v (fun x1 v1 => Q (ishr 1 x1) v1))) : RR t (d + 1) 262 [(2, (-25))] v Q := wp_sound (K := k_262) (cut := []) (f := 10) (cb := false) rfl h
set_option maxRecDepth 100000 in
theorem s_262_s23 {t : Int} {d : Nat} {v : Mem} {Q : Int → Mem → Prop} (h : Q 1 v) : RR t (d + 1) 262 [(2, (-25))] v Q := w_262_s23 (s_266_s23 h)
set_option maxRecDepth 100000 in
theorem w_267_s23 {t : Int} {d : Nat} {v : Mem} {Q : Int → Mem → Prop} (h : (((1 : Int) = 0 → (((0 : Int) = 0 ∨ (0 : Int) = 1) ∧ Q 0 v)) ∧ (¬ (1 : Int) = 0 → (((0 : Int) = 0 → (((1 : Int) = 0 ∨ (1 : Int) = 1) ∧ Q 1 v)) ∧ (¬ (0 : Int) = 0 → (((0 : Int) = 0 ∨ (0 : Int) = 1) ∧ Q 0 v)))))) : RR t d 267 [(2, (-25))] v Q := wp_sound (K := k_267) (cut := []) (f := 12) (cb := false) rfl h
set_option maxRecDepth 100000 in
theorem s_267_s23 {t : Int} {d : Nat} {v : Mem} {Q : Int → Mem → Prop} (h : Q 1 v) : RR t d 267 [(2, (-25))] v Q := w_267_s23 ⟨fun c => absurd c (by decide), fun _ => ⟨fun _ => ⟨Or.inr rfl, h⟩, fun c => absurd (by decide) c⟩⟩
set_option maxRecDepth 100000 in
theorem w_269_s67 {t : Int} {d : Nat} {a1 : Int} {v : Mem} {Q : Int → Mem → Prop} (h : (RR t d 268 [(0, a1), (0, 1)] v (fun x1 v1 => ((0 ≤ a1 ∧ a1 < 1) ∧ ((0 ≤ (w16u (iand (List.getD (sB.getD 23 []) (Int.toNat a1) 0) 255)) ∧ (w16u (iand (List.getD (sB.getD 23 []) (Int.toNat a1) 0) 255)) < 65536) ∧ Q (w16u (iand (List.getD (sB.getD 23 []) (Int.toNat a1) 0) 255)) v1))))) : RR t (d + 1) 269 [(2, (-69)), (0, a1)] v Q := wp_sound (K := k_269) (cut := []) (f := 14) (cb := false) rfl h
set_option maxRecDepth 100000 in
theorem s_269_s67 {t : Int} {d : Nat} {a1 : Int} {v : Mem} {Q : Int → Mem → Prop} (h : ((a1 < 0 → False) ∧ (¬ a1 < 0 → ((a1 < 1 → ((0 ≤ (w16u (iand (List.getD (sB.getD 23 []) (Int.toNat a1) 0) 255)) ∧ (w16u (iand (List.getD (sB.getD 23 []) (Int.toNat a1) 0) 255)) < 65536) ∧ Q (w16u (iand (List.getD (sB.getD 23 []) (Int.toNat a1) 0) 255)) v)) ∧ (¬ a1 < 1 → False))))) : RR t (d + 2) 269 [(2, (-69)), (0, a1)] v Q := w_269_s67 (s_268 ⟨fun c1 => (h.1 c1), fun c1 => ⟨fun c2 => ⟨⟨by omega, by omega⟩, ⟨((h.2 c1).1 c2).1, ((h.2 c1).1 c2).2⟩⟩, fun c2 => ((h.2 c1).2 c2)⟩⟩)
set_option maxRecDepth 100000 in
theorem w_263_s23 {t : Int} {d : Nat} {a1 : Int} {v : Mem} {Q : Int → Mem → Prop} (h : (RR t d 267 [(2, (-25))] v (fun x1 v1 => ((x1 = 0 → False) ∧ (¬ x1 = 0 → (RR t d 269 [(2, (-69)), (0, a1)] v1 (fun x2 v2 => ((0 ≤ x2 ∧ x2 < 65536) ∧ Q x2 v2)))))))) : RR t (d + 1) 263 [(2, (-25)), (0, a1)] v Q := wp_sound (K := k_263) (cut := []) (f := 16) (cb := false) rfl h
set_option maxRecDepth 100000 in
theorem s_263_s23 {t : Int} {d : Nat} {a1 : Int} {v : Mem} {Q : Int → Mem → Prop} (h : ((a1 < 0 → False) ∧ (¬ a1 < 0 → ((a1 < 1 → ((0 ≤ (w16u (iand (List.getD (sB.getD 23 []) (Int.toNat a1) 0) 255)) ∧ (w16u (iand (List.getD (sB.getD 23 []) (Int.toNat a1) 0) 255)) < 65536) ∧ ((0 ≤ (w16u (iand (List.getD (sB.getD 23 []) (Int.toNat a1) 0) 255)) ∧ (w16u (iand (List.getD (sB.getD 23 []) (Int.toNat a1) 0) 255)) < 65536) ∧ Q (w16u (iand (List.getD (sB.getD 23 []) (Int.toNat a1) 0) 255)) v))) ∧ (¬ a1 < 1 → False))))) : RR t (d + 3) 263 [(2, (-25)), (0, a1)] v Q := w_263_s23 (s_267_s23 ⟨fun c => absurd c (by decide), fun _ => s_269_s67 ⟨fun c1 => (h.1 c1), fun c1 => ⟨fun c2 => ⟨((h.2 c1).1 c2).1, ⟨((h.2 c1).1 c2).2.1, ((h.2 c1).1 c2).2.2⟩⟩, fun c2 => ((h.2 c1).2 c2)⟩⟩⟩)
theorem p_263_s23 {t : Int} {d : Nat} {a1 : Int} {v : Mem} {Q : Int → Mem → Prop} (h : (0 ≤ a1 ∧ a1 < 1) ∧ Q (List.getD (sB.getD 23 []) (Int.toNat a1) 0) v) : RR t (d + 3) 263 [(2, (-25)), (0, a1)] v Q := by
  have e := chrE 23 (Int.toNat a1)
  have e2 := chr_r 23 (Int.toNat a1)
  refine s_263_s23 ?_
  simp only [e]
  exact ⟨fun c => absurd h.1.1 (by omega), fun c => ⟨fun c2 => ⟨⟨e2.1, by omega⟩, ⟨e2.1, by omega⟩, h.2⟩, fun c2 => absurd h.1.2 c2⟩⟩
set_option maxRecDepth 100000 in
theorem w_266_s24 {t : Int} {d : Nat} {v : Mem} {Q : Int → Mem → Prop} (h : (((1 : Int) = 0 → ((-128 ≤ (1 : Int) ∧ (1 : Int) < 128) ∧ Q 1 v)) ∧ (¬ (1 : Int) = 0 → ((-128 ≤ (0 : Int) ∧ (0 : Int) < 128) ∧ Q 0 v)))) : RR t d 266 [(2, (-26))] v Q := wp_sound (K := k_266) (cut := []) (f := 10) (cb := false) rfl h
set_option maxRecDepth 100000 in
theorem s_266_s24 {t : Int} {d : Nat} {v : Mem} {Q : Int → Mem → Prop} (h : Q 0 v) : RR t d 266 [(2, (-26))] v Q := w_266_s24 ⟨fun c => absurd c (by decide), fun _ => ⟨⟨by decide, by decide⟩, h⟩⟩
set_option maxRecDepth 100000 in
theorem w_262_s24 {t : Int} {d : Nat} {v : Mem} {Q : Int → Mem → Prop} (h : (RR t d 266 [(2, (-26))] v (fun x1 v1 => Q (ishr 3 x1) v1))) : RR t (d + 1) 262 [(2, (-26))] v Q := wp_sound (K := k_262) (cut := []) (f := 10) (cb := false) rfl h
set_option maxRecDepth 100000 in
theorem s_262_s24 {t : Int} {d : Nat} {v : Mem} {Q : Int → Mem → Prop} (h : Q 3 v) : RR t (d + 1) 262 [(2, (-26))] v Q := w_262_s24 (s_266_s24 h)
set_option maxRecDepth 100000 in
theorem w_267_s24 {t : Int} {d : Nat} {v : Mem} {Q : Int → Mem → Prop} (h : (((1 : Int) = 0 → (((0 : Int) = 0 ∨ (0 : Int) = 1) ∧ Q 0 v)) ∧ (¬ (1 : Int) = 0 → (((0 : Int) = 0 → (((1 : Int) = 0 ∨ (1 : Int) = 1) ∧ Q 1 v)) ∧ (¬ (0 : Int) = 0 → (((0 : Int) = 0 ∨ (0 : Int) = 1) ∧ Q 0 v)))))) : RR t d 267 [(2, (-26))] v Q := wp_sound (K := k_267) (cut := []) (f := 12) (cb := false) rfl h
set_option maxRecDepth 100000 in
theorem s_267_s24 {t : Int} {d : Nat} {v : Mem} {Q : Int → Mem → Prop} (h : Q 1 v) : RR t d 267 [(2, (-26))] v Q := w_267_s24 ⟨fun c => absurd c (by decide), fun _ => ⟨fun _ => ⟨Or.inr rfl, h⟩, fun c => absurd (by decide) c⟩⟩
set_option maxRecDepth 100000 in
theorem w_269_s68 {t : Int} {d : Nat} {a1 : Int} {v : Mem} {Q : Int → Mem → Prop} (h : (RR t d 268 [(0, a1), (0, 3)] v (fun x1 v1 => ((0 ≤ a1 ∧ a1 < 3) ∧ ((0 ≤ (w16u (iand (List.getD (sB.getD 24 []) (Int.toNat a1) 0) 255)) ∧ (w16u (iand (List.getD (sB.getD 24 []) (Int.toNat a1) 0) 255)) < 65536) ∧ Q (w16u (iand (List.getD (sB.getD 24 []) (Int.toNat a1) 0) 255)) v1))))) : RR t (d + 1) 269 [(2, (-70)), (0, a1)] v Q := wp_sound (K := k_269) (cut := []) (f := 14) (cb := false) rfl h
set_option maxRecDepth 100000 in
theorem s_269_s68 {t : Int} {d : Nat} {a1 : Int} {v : Mem} {Q : Int → Mem → Prop} (h : ((a1 < 0 → False) ∧ (¬ a1 < 0 → ((a1 < 3 → ((0 ≤ (w16u (iand (List.getD (sB.getD 24 []) (Int.toNat a1) 0) 255)) ∧ (w16u (iand (List.getD (sB.getD 24 []) (Int.toNat a1) 0) 255)) < 65536) ∧ Q (w16u (iand (List.getD (sB.getD 24 []) (Int.toNat a1) 0) 255)) v)) ∧ (¬ a1 < 3 → False))))) : RR t (d + 2) 269 [(2, (-70)), (0, a1)] v Q := w_269_s68 (s_268 ⟨fun c1 => (h.1 c1), fun c1 => ⟨fun c2 => ⟨⟨by omega, by omega⟩, ⟨((h.2 c1).1 c2).1, ((h.2 c1).1 c2).2⟩⟩, fun c2 => ((h.2 c1).2 c2)⟩⟩)
set_option maxRecDepth 100000 in
theorem w_263_s24 {t : Int} {d : Nat} {a1 : Int} {v : Mem} {Q : Int → Mem → Prop} (h : (RR t d 267 [(2, (-26))] v (fun x1 v1 => ((x1 = 0 → False) ∧ (¬ x1 = 0 → (RR t d 269 [(2, (-70)), (0, a1)] v1 (fun x2 v2 => ((0 ≤ x2 ∧ x2 < 65536) ∧ Q x2 v2)))))))) : RR t (d + 1) 263 [(2, (-26)), (0, a1)] v Q := wp_sound (K := k_263) (cut := []) (f := 16) (cb := false) rfl h
set_option maxRecDepth 100000 in
theorem s_263_s24 {t : Int} {d : Nat} {a1 : Int} {v : Mem} {Q : Int → Mem → Prop} (h : ((a1 < 0 → False) ∧ (¬ a1 < 0 → ((a1 < 3 → ((0 ≤ (w16u (iand (List.getD (sB.getD 24 []) (Int.toNat a1) 0) 255)) ∧ (w16u (iand (List.getD (sB.getD 24 []) (Int.toNat a1) 0) 255)) < 65536) ∧ ((0 ≤ (w16u (iand (List.getD (sB.getD 24 []) (Int.toNat a1) 0) 255)) ∧ (w16u (iand (List.getD (sB.getD 24 []) (Int.toNat a1) 0) 255)) < 65536) ∧ Q (w16u (iand (List.getD (sB.getD 24 []) (Int.toNat a1) 0) 255)) v))) ∧ (¬ a1 < 3 → False))))) : RR t (d + 3) 263 [(2, (-26)), (0, a1)] v Q := w_263_s24 (s_267_s24 ⟨fun c => absurd c (by decide), fun _ => s_269_s68 ⟨fun c1 => (h.1 c1), fun c1 => ⟨fun c2 => ⟨((h.2 c1).1 c2).1, ⟨((h.2 c1).1 c2).2.1, ((h.2 c1).1 c2).2.2⟩⟩, fun c2 => ((h.2 c1).2 c2)⟩⟩⟩)
theorem p_263_s24 {t : Int} {d : Nat} {a1 : Int} {v : Mem} {Q : Int → Mem → Prop} (h : (0 ≤ a1 ∧ a1 < 3) ∧ Q (List.getD (sB.getD 24 []) (Int.toNat a1) 0) v) : RR t (d + 3) 263 [(2, (-26)), (0, a1)] v Q := by
  have e := chrE 24 (Int.toNat a1)
  have e2 := chr_r 24 (Int.toNat a1)
  refine s_263_s24 ?_
  simp only [e]
  exact ⟨fun c => absurd h.1.1 (by omega), fun c => ⟨fun c2 => ⟨⟨e2.1, by omega⟩, ⟨e2.1, by omega⟩, h.2⟩, fun c2 => absurd h.1.2 c2⟩⟩
set_option maxRecDepth 100000 in
theorem w_266_s25 {t : Int} {d : Nat} {v : Mem} {Q : Int → Mem → Prop} (h : (((1 : Int) = 0 → ((-128 ≤ (1 : Int) ∧ (1 : Int) < 128) ∧ Q 1 v)) ∧ (¬ (1 : Int) = 0 → ((-128 ≤ (0 : Int) ∧ (0 : Int) < 128) ∧ Q 0 v)))) : RR t d 266 [(2, (-27))] v Q := wp_sound (K := k_266) (cut := []) (f := 10) (cb := false) rfl h
set_option maxRecDepth 100000 in
theorem s_266_s25 {t : Int} {d : Nat} {v : Mem} {Q : Int → Mem → Prop} (h : Q 0 v) : RR t d 266 [(2, (-27))] v Q := w_266_s25 ⟨fun c => absurd c (by decide), fun _ => ⟨⟨by decide, by decide⟩, h⟩⟩
set_option maxRecDepth 100000 in
theorem w_262_s25 {t : Int} {d : Nat} {v : Mem} {Q : Int → Mem → Prop} (h : (RR t d 266 [(2, (-27))] v (fun x1 v1 => Q (ishr 4 x1) v1))) : RR t (d + 1) 262 [(2, (-27))] v Q := wp_sound (K := k_262) (cut := []) (f := 10) (cb := false) rfl h
set_option maxRecDepth 100000 in
theorem s_262_s25 {t : Int} {d : Nat} {v : Mem} {Q : Int → Mem → Prop} (h : Q 4 v) : RR t (d + 1) 262 [(2, (-27))] v Q := w_262_s25 (s_266_s25 h)
set_option maxRecDepth 100000 in
theorem w_267_s25 {t : Int} {d : Nat} {v : Mem} {Q : Int → Mem → Prop} (h : (((1 : Int) = 0 → (((0 : Int) = 0 ∨ (0 : Int) = 1) ∧ Q 0 v)) ∧ (¬ (1 : Int) = 0 → (((0 : Int) = 0 → (((1 : Int) = 0 ∨ (1 : Int) = 1) ∧ Q 1 v)) ∧ (¬ (0 : Int) = 0 → (((0 : Int) = 0 ∨ (0 : Int) = 1) ∧ Q 0 v)))))) : RR t d 267 [(2, (-27))] v Q := wp_sound (K := k_267) (cut := []) (f := 12) (cb := false) rfl h
set_option maxRecDepth 100000 in
theorem s_267_s25 {t : Int} {d : Nat} {v : Mem} {Q : Int → Mem → Prop} (h : Q 1 v) : RR t d 267 [(2, (-27))] v Q := w_267_s25 ⟨fun c => absurd c (by decide), fun _ => ⟨fun _ => ⟨Or.inr rfl, h⟩, fun c => absurd (by decide) c⟩⟩
set_option maxRecDepth 100000 in
theorem w_269_s69 {t : Int} {d : Nat} {a1 : Int} {v : Mem} {Q : Int → Mem → Prop} (h : (RR t d 268 [(0, a1), (0, 4)] v (fun x1 v1 => ((0 ≤ a1 ∧ a1 < 4) ∧ ((0 ≤ (w16u (iand (List.getD (sB.getD 25 []) (Int.toNat a1) 0) 255)) ∧ (w16u (iand (List.getD (sB.getD 25 []) (Int.toNat a1) 0) 255)) < 65536) ∧ Q (w16u (iand (List.getD (sB.getD 25 []) (Int.toNat a1) 0) 255)) v1))))) : RR t (d + 1) 269 [(2, (-71)), (0, a1)] v Q := wp_sound (K := k_269) (cut := []) (f := 14) (cb := false) rfl h
set_option maxRecDepth 100000 in
theorem s_269_s69 {t : Int} {d : Nat} {a1 : Int} {v : Mem} {Q : Int → Mem → Prop} (h : ((a1 < 0 → False) ∧ (¬ a1 < 0 → ((a1 < 4 → ((0 ≤ (w16u (iand (List.getD (sB.getD 25 []) (Int.toNat a1) 0) 255)) ∧ (w16u (iand (List.getD (sB.getD 25 []) (Int.toNat a1) 0) 255)) < 65536) ∧ Q (w16u (iand (List.getD (sB.getD 25 []) (Int.toNat a1) 0) 255)) v)) ∧ (¬ a1 < 4 → False))))) : RR t (d + 2) 269 [(2, (-71)), (0, a1)] v Q := w_269_s69 (s_268 ⟨fun c1 => (h.1 c1), fun c1 => ⟨fun c2 => ⟨⟨by omega, by omega⟩, ⟨((h.2 c1).1 c2).1, ((h.2 c1).1 c2).2⟩⟩, fun c2 => ((h.2 c1).2 c2)⟩⟩)
set_option maxRecDepth 100000 in
theorem w_263_s25 {t : Int} {d : Nat} {a1 : Int} {v : Mem} {Q : Int → Mem → Prop} (h : (RR t d 267 [(2, (-27))] v (fun x1 v1 => ((x1 = 0 → False) ∧ (¬ x1 = 0 → (RR t d 269 [(2, (-71)), (0, a1)] v1 (fun x2 v2 => ((0 ≤ x2 ∧ x2 < 65536) ∧ Q x2 v2)))))))) : RR t (d + 1) 263 [(2, (-27)), (0, a1)] v Q := wp_sound (K := k_263) (cut := []) (f := 16) (cb := false) rfl h
set_option maxRecDepth 100000 in
theorem s_263_s25 {t : Int} {d : Nat} {a1 : Int} {v : Mem} {Q : Int → Mem → Prop} (h : ((a1 < 0 → False) ∧ (¬ a1 < 0 → ((a1 < 4 → ((0 ≤ (w16u (iand (List.getD (sB.getD 25 []) (Int.toNat a1) 0) 255)) ∧ (w16u (iand (List.getD (sB.getD 25 []) (Int.toNat a1) 0) 255)) < 65536) ∧ ((0 ≤ (w16u (iand (List.getD (sB.getD 25 []) (Int.toNat a1) 0) 255)) ∧ (w16u (iand (List.getD (sB.getD 25 []) (Int.toNat a1) 0) 255)) < 65536) ∧ Q (w16u (iand (List.getD (sB.getD 25 []) (Int.toNat a1) 0) 255)) v))) ∧ (¬ a1 < 4 → False))))) : RR t (d + 3) 263 [(2, (-27)), (0, a1)] v Q := w_263_s25 (s_267_s25 ⟨fun c => absurd c (by decide), fun _ => s_269_s69 ⟨fun c1 => (h.1 c1), fun c1 => ⟨fun c2 => ⟨((h.2 c1).1 c2).1, ⟨((h.2 c1).1 c2).2.1, ((h.2 c1).1 c2).2.2⟩⟩, fun c2 => ((h.2 c1).2 c2)⟩⟩⟩)
theorem p_263_s25 {t : Int} {d : Nat} {a1 : Int} {v : Mem} {Q : Int → Mem → Prop} (h : (0 ≤ a1 ∧ a1 < 4) ∧ Q (List.getD (sB.getD 25 []) (Int.toNat a1) 0) v) : RR t (d + 3) 263 [(2, (-27)), (0, a1)] v Q := by
  have e := chrE 25 (Int.toNat a1)
  have e2 := chr_r 25 (Int.toNat a1)
  refine s_263_s25 ?_
  simp only [e]
  exact ⟨fun c => absurd h.1.1 (by omega), fun c => ⟨fun c2 => ⟨⟨e2.1, by omega⟩, ⟨e2.1, by omega⟩, h.2⟩, fun c2 => absurd h.1.2 c2⟩⟩
set_option maxRecDepth 100000 in
theorem w_266_s26 {t : Int} {d : Nat} {v : Mem} {Q : Int → Mem → Prop} (h : (((1 : Int) = 0 → ((-128 ≤ (1 : Int) ∧ (1 : Int) < 128) ∧ Q 1 v)) ∧ (¬ (1 : Int) = 0 → ((-128 ≤ (0 : Int) ∧ (0 : Int) < 128) ∧ Q 0 v)))) : RR t d 266 [(2, (-28))] v Q := wp_sound (K := k_266) (cut := []) (f := 10) (cb := false) rfl h
set_option maxRecDepth 100000 in
theorem s_266_s26 {t : Int} {d : Nat} {v : Mem} {Q : Int → Mem → Prop} (h : Q 0 v) : RR t d 266 [(2, (-28))] v Q := w_266_s26 ⟨fun c => absurd c (by decide), fun _ => ⟨⟨by decide, by decide⟩, h⟩⟩
set_option maxRecDepth 100000 in
theorem w_262_s26 {t : Int} {d : Nat} {v : Mem} {Q : Int → Mem → Prop} (h : (RR t d 266 [(2, (-28))] v (fun x1 v1 => Q (ishr 6 x1) v1))) : RR t (d + 1) 262 [(2, (-28))] v Q := wp_sound (K := k_262) (cut := []) (f := 10) (cb := false) rfl h
set_option maxRecDepth 100000 in
theorem s_262_s26 {t : Int} {d : Nat} {v : Mem} {Q : Int → Mem → Prop} (h : Q 6 v) : RR t (d + 1) 262 [(2, (-28))] v Q := w_262_s26 (s_266_s26 h)
set_option maxRecDepth 100000 in
theorem w_267_s26 {t : Int} {d : Nat} {v : Mem} {Q : Int → Mem → Prop} (h : (((1 : Int) = 0 → (((0 : Int) = 0 ∨ (0 : Int) = 1) ∧ Q 0 v)) ∧ (¬ (1 : Int) = 0 → (((0 : Int) = 0 → (((1 : Int) = 0 ∨ (1 : Int) = 1) ∧ Q 1 v)) ∧ (¬ (0 : Int) = 0 → (((0 : Int) = 0 ∨ (0 : Int) = 1) ∧ Q 0 v)))))) : RR t d 267 [(2, (-28))] v Q := wp_sound (K := k_267) (cut := []) (f := 12) (cb := false) rfl h
set_option maxRecDepth 100000 in
theorem s_267_s26 {t : Int} {d : Nat} {v : Mem} {Q : Int → Mem → Prop} (h : Q 1 v) : RR t d 267 [(2, (-28))] v Q := w_267_s26 ⟨fun c => absurd c (by decide), fun _ => ⟨fun _ => ⟨Or.inr rfl, h⟩, fun c => absurd (by decide) c⟩⟩
set_option maxRecDepth 100000 in
theorem w_269_s70 {t : Int} {d : Nat} {a1 : Int} {v : Mem} {Q : Int → Mem → Prop} (h : (RR t d 268 [(0, a1), (0, 6)] v (fun x1 v1 => ((0 ≤ a1 ∧ a1 < 6) ∧ ((0 ≤ (w16u (iand (List.getD (sB.getD 26 []) (Int.toNat a1) 0) 255)) ∧ (w16u (iand (List.getD (sB.getD 26 []) (Int.toNat a1) 0) 255)) < 65536) ∧ Q (w16u (iand (List.getD (sB.getD 26 []) (Int.toNat a1) 0) 255)) v1))))) : RR t (d + 1) 269 [(2, (-72)), (0, a1)] v Q := wp_sound (K := k_269) (cut := []) (f := 14) (cb := false) rfl h
set_option maxRecDepth 100000 in
theorem s_269_s70 {t : Int} {d : Nat} {a1 : Int} {v : Mem} {Q : Int → Mem → Prop} (h : ((a1 < 0 → False) ∧ (¬ a1 < 0 → ((a1 < 6 → ((0 ≤ (w16u (iand (List.getD (sB.getD 26 []) (Int.toNat a1) 0) 255)) ∧ (w16u (iand (List.getD (sB.getD 26 []) (Int.toNat a1) 0) 255)) < 65536) ∧ Q (w16u (iand (List.getD (sB.getD 26 []) (Int.toNat a1) 0) 255)) v)) ∧ (¬ a1 < 6 → False))))) : RR t (d + 2) 269 [(2, (-72)), (0, a1)] v Q := w_269_s70 (s_268 ⟨fun c1 => (h.1 c1), fun c1 => ⟨fun c2 => ⟨⟨by omega, by omega⟩, ⟨((h.2 c1).1 c2).1, ((h.2 c1).1 c2).2⟩⟩, fun c2 => ((h.2 c1).2 c2)⟩⟩)
set_option maxRecDepth 100000 in
theorem w_263_s26 {t : Int} {d : Nat} {a1 : Int} {v : Mem} {Q : Int → Mem → Prop} (h : (RR t d 267 [(2, (-28))] v (fun x1 v1 => ((x1 = 0 → False) ∧ (¬ x1 = 0 → (RR t d 269 [(2, (-72)), (0, a1)] v1 (fun x2 v2 => ((0 ≤ x2 ∧ x2 < 65536) ∧ Q x2 v2)))))))) : RR t (d + 1) 263 [(2, (-28)), (0, a1)] v Q := wp_sound (K := k_263) (cut := []) (f := 16) (cb := false) rfl h
set_option maxRecDepth 100000 in
theorem s_263_s26 {t : Int} {d : Nat} {a1 : Int} {v : Mem} {Q : Int → Mem → Prop} (h : ((a1 < 0 → False) ∧ (¬ a1 < 0 → ((a1 < 6 → ((0 ≤ (w16u (iand (List.getD (sB.getD 26 []) (Int.toNat a1) 0) 255)) ∧ (w16u (iand (List.getD (sB.getD 26 []) (Int.toNat a1) 0) 255)) < 65536) ∧ ((0 ≤ (w16u (iand (List.getD (sB.getD 26 []) (Int.toNat a1) 0) 255)) ∧ (w16u (iand (List.getD (sB.getD 26 []) (Int.toNat a1) 0) 255)) < 65536) ∧ Q (w16u (iand (List.getD (sB.getD 26 []) (Int.toNat a1) 0) 255)) v))) ∧ (¬ a1 < 6 → False))))) : RR t (d + 3) 263 [(2, (-28)), (0, a1)] v Q := w_263_s26 (s_267_s26 ⟨fun c => absurd c (by decide), fun _ => s_269_s70 ⟨fun c1 => (h.1 c1), fun c1 => ⟨fun c2 => ⟨((h.2 c1).1 c2).1, ⟨((h.2 c1).1 c2).2.1, ((h.2 c1).1 c2).2.2⟩⟩, fun c2 => ((h.2 c1).2 c2)⟩⟩⟩)
theorem p_263_s26 {t : Int} {d : Nat} {a1 : Int} {v : Mem} {Q : Int → Mem → Prop} (h : (0 ≤ a1 ∧ a1 < 6) ∧ Q (List.getD (sB.getD 26 []) (Int.toNat a1) 0) v) : RR t (d + 3) 263 [(2, (-28)), (0, a1)] v Q := by
  have e := chrE 26 (Int.toNat a1)
  have e2 := chr_r 26 (Int.toNat a1)
  refine s_263_s26 ?_
  simp only [e]
  exact ⟨fun c => absurd h.1.1 (by omega), fun c => ⟨fun c2 => ⟨⟨e2.1, by omega⟩, ⟨e2.1, by omega⟩, h.2⟩, fun c2 => absurd h.1.2 c2⟩⟩
set_option maxRecDepth 100000 in
theorem w_266_s27 {t : Int} {d : Nat} {v : Mem} {Q : Int → Mem → Prop} (h : (((1 : Int) = 0 → ((-128 ≤ (1 : Int) ∧ (1 : Int) < 128) ∧ Q 1 v)) ∧ (¬ (1 : Int) = 0 → ((-128 ≤ (0 : Int) ∧ (0 : Int) < 128) ∧ Q 0 v)))) : RR t d 266 [(2, (-29))] v Q := wp_sound (K := k_266) (cut := []) (f := 10) (cb := false) rfl h
set_option maxRecDepth 100000 in
theorem s_266_s27 {t : Int} {d : Nat} {v : Mem} {Q : Int → Mem → Prop} (h : Q 0 v) : RR t d 266 [(2, (-29))] v Q := w_266_s27 ⟨fun c => absurd c (by decide), fun _ => ⟨⟨by decide, by decide⟩, h⟩⟩
set_option maxRecDepth 100000 in
theorem w_262_s27 {t : Int} {d : Nat} {v : Mem} {Q : Int → Mem → Prop} (h : (RR t d 266 [(2, (-29))] v (fun x1 v1 => Q (ishr 4 x1) v1))) : RR t (d + 1) 262 [(2, (-29))] v Q := wp_sound (K := k_262) (cut := []) (f := 10) (cb := false) rfl h
set_option maxRecDepth 100000 in
theorem s_262_s27 {t : Int} {d : Nat} {v : Mem} {Q : Int → Mem → Prop} (h : Q 4 v) : RR t (d + 1) 262 [(2, (-29))] v Q := w_262_s27 (s_266_s27 h)
set_option maxRecDepth 100000 in
theorem w_267_s27 {t : Int} {d : Nat} {v : Mem} {Q : Int → Mem → Prop} (h : (((1 : Int) = 0 → (((0 : Int) = 0 ∨ (0 : Int) = 1) ∧ Q 0 v)) ∧ (¬ (1 : Int) = 0 → (((0 : Int) = 0 → (((1 : Int) = 0 ∨ (1 : Int) = 1) ∧ Q 1 v)) ∧ (¬ (0 : Int) = 0 → (((0 : Int) = 0 ∨ (0 : Int) = 1) ∧ Q 0 v)))))) : RR t d 267 [(2, (-29))] v Q := wp_sound (K := k_267) (cut := []) (f := 12) (cb := false) rfl h
set_option maxRecDepth 100000 in
theorem s_267_s27 {t : Int} {d : Nat} {v : Mem} {Q : Int → Mem → Prop} (h : Q 1 v) : RR t d 267 [(2, (-29))] v Q := w_267_s27 ⟨fun c => absurd c (by decide), fun _ => ⟨fun _ => ⟨Or.inr rfl, h⟩, fun c => absurd (by decide) c⟩⟩
set_option maxRecDepth 100000 in
theorem w_269_s71 {t : Int} {d : Nat} {a1 : Int} {v : Mem} {Q : Int → Mem → Prop} (h : (RR t d 268 [(0, a1), (0, 4)] v (fun x1 v1 => ((0 ≤ a1 ∧ a1 < 4) ∧ ((0 ≤ (w16u (iand (List.getD (sB.getD 27 []) (Int.toNat a1) 0) 255)) ∧ (w16u (iand (List.getD (sB.getD 27 []) (Int.toNat a1) 0) 255)) < 65536) ∧ Q (w16u (iand (List.getD (sB.getD 27 []) (Int.toNat a1) 0) 255)) v1))))) : RR t (d + 1) 269 [(2, (-73)), (0, a1)] v Q := wp_sound (K := k_269) (cut := []) (f := 14) (cb := false) rfl h
set_option maxRecDepth 100000 in
theorem s_269_s71 {t : Int} {d : Nat} {a1 : Int} {v : Mem} {Q : Int → Mem → Prop} (h : ((a1 < 0 → False) ∧ (¬ a1 < 0 → ((a1 < 4 → ((0 ≤ (w16u (iand (List.getD (sB.getD 27 []) (Int.toNat a1) 0) 255)) ∧ (w16u (iand (List.getD (sB.getD 27 []) (Int.toNat a1) 0) 255)) < 65536) ∧ Q (w16u (iand (List.getD (sB.getD 27 []) (Int.toNat a1) 0) 255)) v)) ∧ (¬ a1 < 4 → False))))) : RR t (d + 2) 269 [(2, (-73)), (0, a1)] v Q := w_269_s71 (s_268 ⟨fun c1 => (h.1 c1), fun c1 => ⟨fun c2 => ⟨⟨by omega, by omega⟩, ⟨((h.2 c1).1 c2).1, ((h.2 c1).1 c2).2⟩⟩, fun c2 => ((h.2 c1).2 c2)⟩⟩)
set_option maxRecDepth 100000 in
theorem w_263_s27 {t : Int} {d : Nat} {a1 : Int} {v : Mem} {Q : Int → Mem → Prop} (h : (RR t d 267 [(2, (-29))] v (fun x1 v1 => ((x1 = 0 → False) ∧ (¬ x1 = 0 → (RR t d 269 [(2, (-73)), (0, a1)] v1 (fun x2 v2 => ((0 ≤ x2 ∧ x2 < 65536) ∧ Q x2 v2)))))))) : RR t (d + 1) 263 [(2, (-29)), (0, a1)] v Q := wp_sound (K := k_263) (cut := []) (f := 16) (cb := false) rfl h
set_option maxRecDepth 100000 in
theorem s_263_s27 {t : Int} {d : Nat} {a1 : Int} {v : Mem} {Q : Int → Mem → Prop} (h : ((a1 < 0 → False) ∧ (¬ a1 < 0 → ((a1 < 4 → ((0 ≤ (w16u (iand (List.getD (sB.getD 27 []) (Int.toNat a1) 0) 255)) ∧ (w16u (iand (List.getD (sB.getD 27 []) (Int.toNat a1) 0) 255)) < 65536) ∧ ((0 ≤ (w16u (iand (List.getD (sB.getD 27 []) (Int.toNat a1) 0) 255)) ∧ (w16u (iand (List.getD (sB.getD 27 []) (Int.toNat a1) 0) 255)) < 65536) ∧ Q (w16u (iand (List.getD (sB.getD 27 []) (Int.toNat a1) 0) 255)) v))) ∧ (¬ a1 < 4 → False))))) : RR t (d + 3) 263 [(2, (-29)), (0, a1)] v Q := w_263_s27 (s_267_s27 ⟨fun c => absurd c (by decide), fun _ => s_269_s71 ⟨fun c1 => (h.1 c1), fun c1 => ⟨fun c2 => ⟨((h.2 c1).1 c2).1, ⟨((h.2 c1).1 c2).2.1, ((h.2 c1).1 c2).2.2⟩⟩, fun c2 => ((h.2 c1).2 c2)⟩⟩⟩)
theorem p_263_s27 {t : Int} {d : Nat} {a1 : Int} {v : Mem} {Q : Int → Mem → Prop} (h : (0 ≤ a1 ∧ a1 < 4) ∧ Q (List.getD (sB.getD 27 []) (Int.toNat a1) 0) v) : RR t (d + 3) 263 [(2, (-29)), (0, a1)] v Q := by
  have e := chrE 27 (Int.toNat a1)
  have e2 := chr_r 27 (Int.toNat a1)
  refine s_263_s27 ?_
  simp only [e]
  exact ⟨fun c => absurd h.1.1 (by omega), fun c => ⟨fun c2 => ⟨⟨e2.1, by omega⟩, ⟨e2.1, by omega⟩, h.2⟩, fun c2 => absurd h.1.2 c2⟩⟩
set_option maxRecDepth 100000 in
theorem w_266_s28 {t : Int} {d : Nat} {v : Mem} {Q : Int → Mem → Prop} (h : (((1 : Int) = 0 → ((-128 ≤ (1 : Int) ∧ (1 : Int) < 128) ∧ Q 1 v)) ∧ (¬ (1 : Int) = 0 → ((-128 ≤ (0 : Int) ∧ (0 : Int) < 128) ∧ Q 0 v)))) : RR t d 266 [(2, (-30))] v Q := wp_sound (K := k_266) (cut := []) (f := 10) (cb := false) rfl h
set_option maxRecDepth 100000 in
theorem s_266_s28 {t : Int} {d : Nat} {v : Mem} {Q : Int → Mem → Prop} (h : Q 0 v) : RR t d 266 [(2, (-30))] v Q := w_266_s28 ⟨fun c => absurd c (by decide), fun _ => ⟨⟨by decide, by decide⟩, h⟩⟩
set_option maxRecDepth 100000 in
theorem w_262_s28 {t : Int} {d : Nat} {v : Mem} {Q : Int → Mem → Prop} (h : (RR t d 266 [(2, (-30))] v (fun x1 v1 => Q (ishr 1 x1) v1))) : RR t (d + 1) 262 [(2, (-30))] v Q := wp_sound (K := k_262) (cut := []) (f := 10) (cb := false) rfl h
set_option maxRecDepth 100000 in
theorem s_262_s28 {t : Int} {d : Nat} {v : Mem} {Q : Int → Mem → Prop} (h : Q 1 v) : RR t (d + 1) 262 [(2, (-30))] v Q := w_262_s28 (s_266_s28 h)
set_option maxRecDepth 100000 in
theorem w_267_s28 {t : Int} {d : Nat} {v : Mem} {Q : Int → Mem → Prop} (h : (((1 : Int) = 0 → (((0 : Int) = 0 ∨ (0 : Int) = 1) ∧ Q 0 v)) ∧ (¬ (1 : Int) = 0 → (((0 : Int) = 0 → (((1 : Int) = 0 ∨ (1 : Int) = 1) ∧ Q 1 v)) ∧ (¬ (0 : Int) = 0 → (((0 : Int) = 0 ∨ (0 : Int) = 1) ∧ Q 0 v)))))) : RR t d 267 [(2, (-30))] v Q := wp_sound (K := k_267) (cut := []) (f := 12) (cb := false) rfl h
set_option maxRecDepth 100000 in
theorem s_267_s28 {t : Int} {d : Nat} {v : Mem} {Q : Int → Mem → Prop} (h : Q 1 v) : RR t d 267 [(2, (-30))] v Q := w_267_s28 ⟨fun c => absurd c (by decide), fun _ => ⟨fun _ => ⟨Or.inr rfl, h⟩, fun c => absurd (by decide) c⟩⟩
set_option maxRecDepth 100000 in
theorem w_269_s72 {t : Int} {d : Nat} {a1 : Int} {v : Mem} {Q : Int → Mem → Prop} (h : (RR t d 268 [(0, a1), (0, 1)] v (fun x1 v1 => ((0 ≤ a1 ∧ a1 < 1) ∧ ((0 ≤ (w16u (iand (List.getD (sB.getD 28 []) (Int.toNat a1) 0) 255)) ∧ (w16u (iand (List.getD (sB.getD 28 []) (Int.toNat a1) 0) 255)) < 65536) ∧ Q (w16u (iand (List.getD (sB.getD 28 []) (Int.toNat a1) 0) 255)) v1))))) : RR t (d + 1) 269 [(2, (-74)), (0, a1)] v Q := wp_sound (K := k_269) (cut := []) (f := 14) (cb := false) rfl h
set_option maxRecDepth 100000 in
theorem s_269_s72 {t : Int} {d : Nat} {a1 : Int} {v : Mem} {Q : Int → Mem → Prop} (h : ((a1 < 0 → False) ∧ (¬ a1 < 0 → ((a1 < 1 → ((0 ≤ (w16u (iand (List.getD (sB.getD 28 []) (Int.toNat a1) 0) 255)) ∧ (w16u (iand (List.getD (sB.getD 28 []) (Int.toNat a1) 0) 255)) < 65536) ∧ Q (w16u (iand (List.getD (sB.getD 28 []) (Int.toNat a1) 0) 255)) v)) ∧ (¬ a1 < 1 → False))))) : RR t (d + 2) 269 [(2, (-74)), (0, a1)] v Q := w_269_s72 (s_268 ⟨fun c1 => (h.1 c1), fun c1 => ⟨fun c2 => ⟨⟨by omega, by omega⟩, ⟨((h.2 c1).1 c2).1, ((h.2 c1).1 c2).2⟩⟩, fun c2 => ((h.2 c1).2 c2)⟩⟩)
set_option maxRecDepth 100000 in
theorem w_263_s28 {t : Int} {d : Nat} {a1 : Int} {v : Mem} {Q : Int → Mem → Prop} (h : (RR t d 267 [(2, (-30))] v (fun x1 v1 => ((x1 = 0 → False) ∧ (¬ x1 = 0 → (RR t d 269 [(2, (-74)), (0, a1)] v1 (fun x2 v2 => ((0 ≤ x2 ∧ x2 < 65536) ∧ Q x2 v2)))))))) : RR t (d + 1) 263 [(2, (-30)), (0, a1)] v Q := wp_sound (K := k_263) (cut := []) (f := 16) (cb := false) rfl h
set_option maxRecDepth 100000 in
theorem s_263_s28 {t : Int} {d : Nat} {a1 : Int} {v : Mem} {Q : Int → Mem → Prop} (h : ((a1 < 0 → False) ∧ (¬ a1 < 0 → ((a1 < 1 → ((0 ≤ (w16u (iand (List.getD (sB.getD 28 []) (Int.toNat a1) 0) 255)) ∧ (w16u (iand (List.getD (sB.getD 28 []) (Int.toNat a1) 0) 255)) < 65536) ∧ ((0 ≤ (w16u (iand (List.getD (sB.getD 28 []) (Int.toNat a1) 0) 255)) ∧ (w16u (iand (List.getD (sB.getD 28 []) (Int.toNat a1) 0) 255)) < 65536) ∧ Q (w16u (iand (List.getD (sB.getD 28 []) (Int.toNat a1) 0) 255)) v))) ∧ (¬ a1 < 1 → False))))) : RR t (d + 3) 263 [(2, (-30)), (0, a1)] v Q := w_263_s28 (s_267_s28 ⟨fun c => absurd c (by decide), fun _ => s_269_s72 ⟨fun c1 => (h.1 c1), fun c1 => ⟨fun c2 => ⟨((h.2 c1).1 c2).1, ⟨((h.2 c1).1 c2).2.1, ((h.2 c1).1 c2).2.2⟩⟩, fun c2 => ((h.2 c1).2 c2)⟩⟩⟩)
theorem p_263_s28 {t : Int} {d : Nat} {a1 : Int} {v : Mem} {Q : Int → Mem → Prop} (h : (0 ≤ a1 ∧ a1 < 1) ∧ Q (List.getD (sB.getD 28 []) (Int.toNat a1) 0) v) : RR t (d + 3) 263 [(2, (-30)), (0, a1)] v Q := by
  have e := chrE 28 (Int.toNat a1)
  have e2 := chr_r 28 (Int.toNat a1)
  refine s_263_s28 ?_
  simp only [e]
  exact ⟨fun c => absurd h.1.1 (by omega), fun c => ⟨fun c2 => ⟨⟨e2.1, by omega⟩, ⟨e2.1, by omega⟩, h.2⟩, fun c2 => absurd h.1.2 c2⟩⟩
set_option maxRecDepth 100000 in
theorem w_266_s29 {t : Int} {d : Nat} {v : Mem} {Q : Int → Mem → Prop} (h : (((1 : Int) = 0 → ((-128 ≤ (1 : Int) ∧ (1 : Int) < 128) ∧ Q 1 v)) ∧ (¬ (1 : Int) = 0 → ((-128 ≤ (0 : Int) ∧ (0 : Int) < 128) ∧ Q 0 v)))) : RR t d 266 [(2, (-31))] v Q := wp_sound (K := k_266) (cut := []) (f := 10) (cb := false) rfl h
set_option maxRecDepth 100000 in
theorem s_266_s29 {t : Int} {d : Nat} {v : Mem} {Q : Int → Mem → Prop} (h : Q 0 v) : RR t d 266 [(2, (-31))] v Q := w_266_s29 ⟨fun c => absurd c (by decide), fun _ => ⟨⟨by decide, by decide⟩, h⟩⟩
set_option maxRecDepth 100000 in
theorem w_262_s29 {t : Int} {d : Nat} {v : Mem} {Q : Int → Mem → Prop} (h : (RR t d 266 [(2, (-31))] v (fun x1 v1 => Q (ishr 1 x1) v1))) : RR t (d + 1) 262 [(2, (-31))] v Q := wp_sound (K := k_262) (cut := []) (f := 10) (cb := false) rfl h
set_option maxRecDepth 100000 in
theorem s_262_s29 {t : Int} {d : Nat} {v : Mem} {Q : Int → Mem → Prop} (h : Q 1 v) : RR t (d + 1) 262 [(2, (-31))] v Q := w_262_s29 (s_266_s29 h)
set_option maxRecDepth 100000 in
theorem w_267_s29 {t : Int} {d : Nat} {v : Mem} {Q : Int → Mem → Prop} (h : (((1 : Int) = 0 → (((0 : Int) = 0 ∨ (0 : Int) = 1) ∧ Q 0 v)) ∧ (¬ (1 : Int) = 0 → (((0 : Int) = 0 → (((1 : Int) = 0 ∨ (1 : Int) = 1) ∧ Q 1 v)) ∧ (¬ (0 : Int) = 0 → (((0 : Int) = 0 ∨ (0 : Int) = 1) ∧ Q 0 v)))))) : RR t d 267 [(2, (-31))] v Q := wp_sound (K := k_267) (cut := []) (f := 12) (cb := false) rfl h
set_option maxRecDepth 100000 in
theorem s_267_s29 {t : Int} {d : Nat} {v : Mem} {Q : Int → Mem → Prop} (h : Q 1 v) : RR t d 267 [(2, (-31))] v Q := w_267_s29 ⟨fun c => absurd c (by decide), fun _ => ⟨fun _ => ⟨Or.inr rfl, h⟩, fun c => absurd (by decide) c⟩⟩
set_option maxRecDepth 100000 in
theorem w_269_s73 {t : Int} {d : Nat} {a1 : Int} {v : Mem} {Q : Int → Mem → Prop} (h : (RR t d 268 [(0, a1), (0, 1)] v (fun x1 v1 => ((0 ≤ a1 ∧ a1 < 1) ∧ ((0 ≤ (w16u (iand (List.getD (sB.getD 29 []) (Int.toNat a1) 0) 255)) ∧ (w16u (iand (List.getD (sB.getD 29 []) (Int.toNat a1) 0) 255)) < 65536) ∧ Q (w16u (iand (List.getD (sB.getD 29 []) (Int.toNat a1) 0) 255)) v1))))) : RR t (d + 1) 269 [(2, (-75)), (0, a1)] v Q := wp_sound (K := k_269) (cut := []) (f := 14) (cb := false) rfl h
set_option maxRecDepth 100000 in
theorem s_269_s73 {t : Int} {d : Nat} {a1 : Int} {v : Mem} {Q : Int → Mem → Prop} (h : ((a1 < 0 → False) ∧ (¬ a1 < 0 → ((a1 < 1 → ((0 ≤ (w16u (iand (List.getD (sB.getD 29 []) (Int.toNat a1) 0) 255)) ∧ (w16u (iand (List.getD (sB.getD 29 []) (Int.toNat a1) 0) 255)) < 65536) ∧ Q (w16u (iand (List.getD (sB.getD 29 []) (Int.toNat a1) 0) 255)) v)) ∧ (¬ a1 < 1 → False))))) : RR t (d + 2) 269 [(2, (-75)), (0, a1)] v Q := w_269_s73 (s_268 ⟨fun c1 => (h.1 c1), fun c1 => ⟨fun c2 => ⟨⟨by omega, by omega⟩, ⟨((h.2 c1).1 c2).1, ((h.2 c1).1 c2).2⟩⟩, fun c2 => ((h.2 c1).2 c2)⟩⟩)
set_option maxRecDepth 100000 in
theorem w_263_s29 {t : Int} {d : Nat} {a1 : Int} {v : Mem} {Q : Int → Mem → Prop} (h : (RR t d 267 [(2, (-31))] v (fun x1 v1 => ((x1 = 0 → False) ∧ (¬ x1 = 0 → (RR t d 269 [(2, (-75)), (0, a1)] v1 (fun x2 v2 => ((0 ≤ x2 ∧ x2 < 65536) ∧ Q x2 v2)))))))) : RR t (d + 1) 263 [(2, (-31)), (0, a1)] v Q := wp_sound (K := k_263) (cut := []) (f := 16) (cb := false) rfl h
set_option maxRecDepth 100000 in
theorem s_263_s29 {t : Int} {d : Nat} {a1 : Int} {v : Mem} {Q : Int → Mem → Prop} (h : ((a1 < 0 → False) ∧ (¬ a1 < 0 → ((a1 < 1 → ((0 ≤ (w16u (iand (List.getD (sB.getD 29 []) (Int.toNat a1) 0) 255)) ∧ (w16u (iand (List.getD (sB.getD 29 []) (Int.toNat a1) 0) 255)) < 65536) ∧ ((0 ≤ (w16u (iand (List.getD (sB.getD 29 []) (Int.toNat a1) 0) 255)) ∧ (w16u (iand (List.getD (sB.getD 29 []) (Int.toNat a1) 0) 255)) < 65536) ∧ Q (w16u (iand (List.getD (sB.getD 29 []) (Int.toNat a1) 0) 255)) v))) ∧ (¬ a1 < 1 → False))))) : RR t (d + 3) 263 [(2, (-31)), (0, a1)] v Q := w_263_s29 (s_267_s29 ⟨fun c => absurd c (by decide), fun _ => s_269_s73 ⟨fun c1 => (h.1 c1), fun c1 => ⟨fun c2 => ⟨((h.2 c1).1 c2).1, ⟨((h.2 c1).1 c2).2.1, ((h.2 c1).1 c2).2.2⟩⟩, fun c2 => ((h.2 c1).2 c2)⟩⟩⟩)
theorem p_263_s29 {t : Int} {d : Nat} {a1 : Int} {v : Mem} {Q : Int → Mem → Prop} (h : (0 ≤ a1 ∧ a1 < 1) ∧ Q (List.getD (sB.getD 29 []) (Int.toNat a1) 0) v) : RR t (d + 3) 263 [(2, (-31)), (0, a1)] v Q := by
  have e := chrE 29 (Int.toNat a1)
  have e2 := chr_r 29 (Int.toNat a1)
  refine s_263_s29 ?_
  simp only [e]
  exact ⟨fun c => absurd h.1.1 (by omega), fun c => ⟨fun c2 => ⟨⟨e2.1, by omega⟩, ⟨e2.1, by omega⟩, h.2⟩, fun c2 => absurd h.1.2 c2⟩⟩
set_option maxRecDepth 100000 in
theorem w_266_s30 {t : Int} {d : Nat} {v : Mem} {Q : Int → Mem → Prop} (h : (((1 : Int) = 0 → ((-128 ≤ (1 : Int) ∧ (1 : Int) < 128) ∧ Q 1 v)) ∧ (¬ (1 : Int) = 0 → ((-128 ≤ (0 : Int) ∧ (0 : Int) < 128) ∧ Q 0 v)))) : RR t d 266 [(2, (-32))] v Q := wp_sound (K := k_266) (cut := []) (f := 10) (cb := false) rfl h
set_option maxRecDepth 100000 in
theorem s_266_s30 {t : Int} {d : Nat} {v : Mem} {Q : Int → Mem → Prop} (h : Q 0 v) : RR t d 266 [(2, (-32))] v Q := w_266_s30 ⟨fun c => absurd c (by decide), fun _ => ⟨⟨by decide, by decide⟩, h⟩⟩
set_option maxRecDepth 100000 in
theorem w_262_s30 {t : Int} {d : Nat} {v : Mem} {Q : Int → Mem → Prop} (h : (RR t d 266 [(2, (-32))] v (fun x1 v1 => Q (ishr 2 x1) v1))) : RR t (d + 1) 262 [(2, (-32))] v Q := wp_sound (K := k_262) (cut := []) (f := 10) (cb := false) rfl h
set_option maxRecDepth 100000 in
theorem s_262_s30 {t : Int} {d : Nat} {v : Mem} {Q : Int → Mem → Prop} (h : Q 2 v) : RR t (d + 1) 262 [(2, (-32))] v Q := w_262_s30 (s_266_s30 h)
set_option maxRecDepth 100000 in
theorem w_267_s30 {t : Int} {d : Nat} {v : Mem} {Q : Int → Mem → Prop} (h : (((1 : Int) = 0 → (((0 : Int) = 0 ∨ (0 : Int) = 1) ∧ Q 0 v)) ∧ (¬ (1 : Int) = 0 → (((0 : Int) = 0 → (((1 : Int) = 0 ∨ (1 : Int) = 1) ∧ Q 1 v)) ∧ (¬ (0 : Int) = 0 → (((0 : Int) = 0 ∨ (0 : Int) = 1) ∧ Q 0 v)))))) : RR t d 267 [(2, (-32))] v Q := wp_sound (K := k_267) (cut := []) (f := 12) (cb := false) rfl h
set_option maxRecDepth 100000 in
theorem s_267_s30 {t : Int} {d : Nat} {v : Mem} {Q : Int → Mem → Prop} (h : Q 1 v) : RR t d 267 [(2, (-32))] v Q := w_267_s30 ⟨fun c => absurd c (by decide), fun _ => ⟨fun _ => ⟨Or.inr rfl, h⟩, fun c => absurd (by decide) c⟩⟩
set_option maxRecDepth 100000 in
theorem w_269_s74 {t : Int} {d : Nat} {a1 : Int} {v : Mem} {Q : Int → Mem → Prop} (h : (RR t d 268 [(0, a1), (0, 2)] v (fun x1 v1 => ((0 ≤ a1 ∧ a1 < 2) ∧ ((0 ≤ (w16u (iand (List.getD (sB.getD 30 []) (Int.toNat a1) 0) 255)) ∧ (w16u (iand (List.getD (sB.getD 30 []) (Int.toNat a1) 0) 255)) < 65536) ∧ Q (w16u (iand (List.getD (sB.getD 30 []) (Int.toNat a1) 0) 255)) v1))))) : RR t (d + 1) 269 [(2, (-76)), (0, a1)] v Q := wp_sound (K := k_269) (cut := []) (f := 14) (cb := false) rfl h
set_option maxRecDepth 100000 in
theorem s_269_s74 {t : Int} {d : Nat} {a1 : Int} {v : Mem} {Q : Int → Mem → Prop} (h : ((a1 < 0 → False) ∧ (¬ a1 < 0 → ((a1 < 2 → ((0 ≤ (w16u (iand (List.getD (sB.getD 30 []) (Int.toNat a1) 0) 255)) ∧ (w16u (iand (List.getD (sB.getD 30 []) (Int.toNat a1) 0) 255)) < 65536) ∧ Q (w16u (iand (List.getD (sB.getD 30 []) (Int.toNat a1) 0) 255)) v)) ∧ (¬ a1 < 2 → False))))) : RR t (d + 2) 269 [(2, (-76)), (0, a1)] v Q := w_269_s74 (s_268 ⟨fun c1 => (h.1 c1), fun c1 => ⟨fun c2 => ⟨⟨by omega, by omega⟩, ⟨((h.2 c1).1 c2).1, ((h.2 c1).1 c2).2⟩⟩, fun c2 => ((h.2 c1).2 c2)⟩⟩)
set_option maxRecDepth 100000 in
theorem w_263_s30 {t : Int} {d : Nat} {a1 : Int} {v : Mem} {Q : Int → Mem → Prop} (h : (RR t d 267 [(2, (-32))] v (fun x1 v1 => ((x1 = 0 → False) ∧ (¬ x1 = 0 → (RR t d 269 [(2, (-76)), (0, a1)] v1 (fun x2 v2 => ((0 ≤ x2 ∧ x2 < 65536) ∧ Q x2 v2)))))))) : RR t (d + 1) 263 [(2, (-32)), (0, a1)] v Q := wp_sound (K := k_263) (cut := []) (f := 16) (cb := false) rfl h
set_option maxRecDepth 100000 in
theorem s_263_s30 {t : Int} {d : Nat} {a1 : Int} {v : Mem} {Q : Int → Mem → Prop} (h : ((a1 < 0 → False) ∧ (¬ a1 < 0 → ((a1 < 2 → ((0 ≤ (w16u (iand (List.getD (sB.getD 30 []) (Int.toNat a1) 0) 255)) ∧ (w16u (iand (List.getD (sB.getD 30 []) (Int.toNat a1) 0) 255)) < 65536) ∧ ((0 ≤ (w16u (iand (List.getD (sB.getD 30 []) (Int.toNat a1) 0) 255)) ∧ (w16u (iand (List.getD (sB.getD 30 []) (Int.toNat a1) 0) 255)) < 65536) ∧ Q (w16u (iand (List.getD (sB.getD 30 []) (Int.toNat a1) 0) 255)) v))) ∧ (¬ a1 < 2 → False))))) : RR t (d + 3) 263 [(2, (-32)), (0, a1)] v Q := w_263_s30 (s_267_s30 ⟨fun c => absurd c (by decide), fun _ => s_269_s74 ⟨fun c1 => (h.1 c1), fun c1 => ⟨fun c2 => ⟨((h.2 c1).1 c2).1, ⟨((h.2 c1).1 c2).2.1, ((h.2 c1).1 c2).2.2⟩⟩, fun c2 => ((h.2 c1).2 c2)⟩⟩⟩)
theorem p_263_s30 {t : Int} {d : Nat} {a1 : Int} {v : Mem} {Q : Int → Mem → Prop} (h : (0 ≤ a1 ∧ a1 < 2) ∧ Q (List.getD (sB.getD 30 []) (Int.toNat a1) 0) v) : RR t (d + 3) 263 [(2, (-32)), (0, a1)] v Q := by
  have e := chrE 30 (Int.toNat a1)
  have e2 := chr_r 30 (Int.toNat a1)
  refine s_263_s30 ?_
  simp only [e]
  exact ⟨fun c => absurd h.1.1 (by omega), fun c => ⟨fun c2 => ⟨⟨e2.1, by omega⟩, ⟨e2.1, by omega⟩, h.2⟩, fun c2 => absurd h.1.2 c2⟩⟩
set_option maxRecDepth 100000 in
theorem w_266_s31 {t : Int} {d : Nat} {v : Mem} {Q : Int → Mem → Prop} (h : (((1 : Int) = 0 → ((-128 ≤ (1 : Int) ∧ (1 : Int) < 128) ∧ Q 1 v)) ∧ (¬ (1 : Int) = 0 → ((-128 ≤ (0 : Int) ∧ (0 : Int) < 128) ∧ Q 0 v)))) : RR t d 266 [(2, (-33))] v Q := wp_sound (K := k_266) (cut := []) (f := 10) (cb := false) rfl h
set_option maxRecDepth 100000 in
theorem s_266_s31 {t : Int} {d : Nat} {v : Mem} {Q : Int → Mem → Prop} (h : Q 0 v) : RR t d 266 [(2, (-33))] v Q := w_266_s31 ⟨fun c => absurd c (by decide), fun _ => ⟨⟨by decide, by decide⟩, h⟩⟩
set_option maxRecDepth 100000 in
theorem w_262_s31 {t : Int} {d : Nat} {v : Mem} {Q : Int → Mem → Prop} (h : (RR t d 266 [(2, (-33))] v (fun x1 v1 => Q (ishr 3 x1) v1))) : RR t (d + 1) 262 [(2, (-33))] v Q := wp_sound (K := k_262) (cut := []) (f := 10) (cb := false) rfl h
set_option maxRecDepth 100000 in
theorem s_262_s31 {t : Int} {d : Nat} {v : Mem} {Q : Int → Mem → Prop} (h : Q 3 v) : RR t (d + 1) 262 [(2, (-33))] v Q := w_262_s31 (s_266_s31 h)
set_option maxRecDepth 100000 in
theorem w_267_s31 {t : Int} {d : Nat} {v : Mem} {Q : Int → Mem → Prop} (h : (((1 : Int) = 0 → (((0 : Int) = 0 ∨ (0 : Int) = 1) ∧ Q 0 v)) ∧ (¬ (1 : Int) = 0 → (((0 : Int) = 0 → (((1 : Int) = 0 ∨ (1 : Int) = 1) ∧ Q 1 v)) ∧ (¬ (0 : Int) = 0 → (((0 : Int) = 0 ∨ (0 : Int) = 1) ∧ Q 0 v)))))) : RR t d 267 [(2, (-33))] v Q := wp_sound (K := k_267) (cut := []) (f := 12) (cb := false) rfl h
set_option maxRecDepth 100000 in
theorem s_267_s31 {t : Int} {d : Nat} {v : Mem} {Q : Int → Mem → Prop} (h : Q 1 v) : RR t d 267 [(2, (-33))] v Q := w_267_s31 ⟨fun c => absurd c (by decide), fun _ => ⟨fun _ => ⟨Or.inr rfl, h⟩, fun c => absurd (by decide) c⟩⟩
set_option maxRecDepth 100000 in
theorem w_269_s75 {t : Int} {d : Nat} {a1 : Int} {v : Mem} {Q : Int → Mem → Prop} (h : (RR t d 268 [(0, a1), (0, 3)] v (fun x1 v1 => ((0 ≤ a1 ∧ a1 < 3) ∧ ((0 ≤ (w16u (iand (List.getD (sB.getD 31 []) (Int.toNat a1) 0) 255)) ∧ (w16u (iand (List.getD (sB.getD 31 []) (Int.toNat a1) 0) 255)) < 65536) ∧ Q (w16u (iand (List.getD (sB.getD 31 []) (Int.toNat a1) 0) 255)) v1))))) : RR t (d + 1) 269 [(2, (-77)), (0, a1)] v Q := wp_sound (K := k_269) (cut := []) (f := 14) (cb := false) rfl h
set_option maxRecDepth 100000 in
theorem s_269_s75 {t : Int} {d : Nat} {a1 : Int} {v : Mem} {Q : Int → Mem → Prop} (h : ((a1 < 0 → False) ∧ (¬ a1 < 0 → ((a1 < 3 → ((0 ≤ (w16u (iand (List.getD (sB.getD 31 []) (Int.toNat a1) 0) 255)) ∧ (w16u (iand (List.getD (sB.getD 31 []) (Int.toNat a1) 0) 255)) < 65536) ∧ Q (w16u (iand (List.getD (sB.getD 31 []) (Int.toNat a1) 0) 255)) v)) ∧ (¬ a1 < 3 → False))))) : RR t (d + 2) 269 [(2, (-77)), (0, a1)] v Q := w_269_s75 (s_268 ⟨fun c1 => (h.1 c1), fun c1 => ⟨fun c2 => ⟨⟨by omega, by omega⟩, ⟨((h.2 c1).1 c2).1, ((h.2 c1).1 c2).2⟩⟩, fun c2 => ((h.2 c1).2 c2)⟩⟩)
set_option maxRecDepth 100000 in
theorem w_263_s31 {t : Int} {d : Nat} {a1 : Int} {v : Mem} {Q : Int → Mem → Prop} (h : (RR t d 267 [(2, (-33))] v (fun x1 v1 => ((x1 = 0 → False) ∧ (¬ x1 = 0 → (RR t d 269 [(2, (-77)), (0, a1)] v1 (fun x2 v2 => ((0 ≤ x2 ∧ x2 < 65536) ∧ Q x2 v2)))))))) : RR t (d + 1) 263 [(2, (-33)), (0, a1)] v Q := wp_sound (K := k_263) (cut := []) (f := 16) (cb := false) rfl h
set_option maxRecDepth 100000 in
theorem s_263_s31 {t : Int} {d : Nat} {a1 : Int} {v : Mem} {Q : Int → Mem → Prop} (h : ((a1 < 0 → False) ∧ (¬ a1 < 0 → ((a1 < 3 → ((0 ≤ (w16u (iand (List.getD (sB.getD 31 []) (Int.toNat a1) 0) 255)) ∧ (w16u (iand (List.getD (sB.getD 31 []) (Int.toNat a1) 0) 255)) < 65536) ∧ ((0 ≤ (w16u (iand (List.getD (sB.getD 31 []) (Int.toNat a1) 0) 255)) ∧ (w16u (iand (List.getD (sB.getD 31 []) (Int.toNat a1) 0) 255)) < 65536) ∧ Q (w16u (iand (List.getD (sB.getD 31 []) (Int.toNat a1) 0) 255)) v))) ∧ (¬ a1 < 3 → False))))) : RR t (d + 3) 263 [(2, (-33)), (0, a1)] v Q := w_263_s31 (s_267_s31 ⟨fun c => absurd c (by decide), fun _ => s_269_s75 ⟨fun c1 => (h.1 c1), fun c1 => ⟨fun c2 => ⟨((h.2 c1).1 c2).1, ⟨((h.2 c1).1 c2).2.1, ((h.2 c1).1 c2).2.2⟩⟩, fun c2 => ((h.2 c1).2 c2)⟩⟩⟩)
theorem p_263_s31 {t : Int} {d : Nat} {a1 : Int} {v : Mem} {Q : Int → Mem → Prop} (h : (0 ≤ a1 ∧ a1 < 3) ∧ Q (List.getD (sB.getD 31 []) (Int.toNat a1) 0) v) : RR t (d + 3) 263 [(2, (-33)), (0, a1)] v Q := by
  have e := chrE 31 (Int.toNat a1)
  have e2 := chr_r 31 (Int.toNat a1)
  refine s_263_s31 ?_
  simp only [e]
  exact ⟨fun c => absurd h.1.1 (by omega), fun c => ⟨fun c2 => ⟨⟨e2.1, by omega⟩, ⟨e2.1, by omega⟩, h.2⟩, fun c2 => absurd h.1.2 c2⟩⟩
set_option maxRecDepth 100000 in
theorem w_266_s32 {t : Int} {d : Nat} {v : Mem} {Q : Int → Mem → Prop} (h : (((1 : Int) = 0 → ((-128 ≤ (1 : Int) ∧ (1 : Int) < 128) ∧ Q 1 v)) ∧ (¬ (1 : Int) = 0 → ((-128 ≤ (0 : Int) ∧ (0 : Int) < 128) ∧ Q 0 v)))) : RR t d 266 [(2, (-34))] v Q := wp_sound (K := k_266) (cut := []) (f := 10) (cb := false) rfl h
set_option maxRecDepth 100000 in
theorem s_266_s32 {t : Int} {d : Nat} {v : Mem} {Q : Int → Mem → Prop} (h : Q 0 v) : RR t d 266 [(2, (-34))] v Q := w_266_s32 ⟨fun c => absurd c (by decide), fun _ => ⟨⟨by decide, by decide⟩, h⟩⟩
set_option maxRecDepth 100000 in
theorem w_262_s32 {t : Int} {d : Nat} {v : Mem} {Q : Int → Mem → Prop} (h : (RR t d 266 [(2, (-34))] v (fun x1 v1 => Q (ishr 2 x1) v1))) : RR t (d + 1) 262 [(2, (-34))] v Q := wp_sound (K := k_262) (cut := []) (f := 10) (cb := false) rfl h
set_option maxRecDepth 100000 in
theorem s_262_s32 {t : Int} {d : Nat} {v : Mem} {Q : Int → Mem → Prop} (h : Q 2 v) : RR t (d + 1) 262 [(2, (-34))] v Q := w_262_s32 (s_266_s32 h)
set_option maxRecDepth 100000 in
theorem w_267_s32 {t : Int} {d : Nat} {v : Mem} {Q : Int → Mem → Prop} (h : (((1 : Int) = 0 → (((0 : Int) = 0 ∨ (0 : Int) = 1) ∧ Q 0 v)) ∧ (¬ (1 : Int) = 0 → (((0 : Int) = 0 → (((1 : Int) = 0 ∨ (1 : Int) = 1) ∧ Q 1 v)) ∧ (¬ (0 : Int) = 0 → (((0 : Int) = 0 ∨ (0 : Int) = 1) ∧ Q 0 v)))))) : RR t d 267 [(2, (-34))] v Q := wp_sound (K := k_267) (cut := []) (f := 12) (cb := false) rfl h
set_option maxRecDepth 100000 in
theorem s_267_s32 {t : Int} {d : Nat} {v : Mem} {Q : Int → Mem → Prop} (h : Q 1 v) : RR t d 267 [(2, (-34))] v Q := w_267_s32 ⟨fun c => absurd c (by decide), fun _ => ⟨fun _ => ⟨Or.inr rfl, h⟩, fun c => absurd (by decide) c⟩⟩
set_option maxRecDepth 100000 in
theorem w_269_s76 {t : Int} {d : Nat} {a1 : Int} {v : Mem} {Q : Int → Mem → Prop} (h : (RR t d 268 [(0, a1), (0, 2)] v (fun x1 v1 => ((0 ≤ a1 ∧ a1 < 2) ∧ ((0 ≤ (w16u (iand (List.getD (sB.getD 32 []) (Int.toNat a1) 0) 255)) ∧ (w16u (iand (List.getD (sB.getD 32 []) (Int.toNat a1) 0) 255)) < 65536) ∧ Q (w16u (iand (List.getD (sB.getD 32 []) (Int.toNat a1) 0) 255)) v1))))) : RR t (d + 1) 269 [(2, (-78)), (0, a1)] v Q := wp_sound (K := k_269) (cut := []) (f := 14) (cb := false) rfl h
set_option maxRecDepth 100000 in
theorem s_269_s76 {t : Int} {d : Nat} {a1 : Int} {v : Mem} {Q : Int → Mem → Prop} (h : ((a1 < 0 → False) ∧ (¬ a1 < 0 → ((a1 < 2 → ((0 ≤ (w16u (iand (List.getD (sB.getD 32 []) (Int.toNat a1) 0) 255)) ∧ (w16u (iand (List.getD (sB.getD 32 []) (Int.toNat a1) 0) 255)) < 65536) ∧ Q (w16u (iand (List.getD (sB.getD 32 []) (Int.toNat a1) 0) 255)) v)) ∧ (¬ a1 < 2 → False))))) : RR t (d + 2) 269 [(2, (-78)), (0, a1)] v Q := w_269_s76 (s_268 ⟨fun c1 => (h.1 c1), fun c1 => ⟨fun c2 => ⟨⟨by omega, by omega⟩, ⟨((h.2 c1).1 c2).1, ((h.2 c1).1 c2).2⟩⟩, fun c2 => ((h.2 c1).2 c2)⟩⟩)
set_option maxRecDepth 100000 in
theorem w_263_s32 {t : Int} {d : Nat} {a1 : Int} {v : Mem} {Q : Int → Mem → Prop} (h : (RR t d 267 [(2, (-34))] v (fun x1 v1 => ((x1 = 0 → False) ∧ (¬ x1 = 0 → (RR t d 269 [(2, (-78)), (0, a1)] v1 (fun x2 v2 => ((0 ≤ x2 ∧ x2 < 65536) ∧ Q x2 v2)))))))) : RR t (d + 1) 263 [(2, (-34)), (0, a1)] v Q := wp_sound (K := k_263) (cut := []) (f := 16) (cb := false) rfl h
set_option maxRecDepth 100000 in
theorem s_263_s32 {t : Int} {d : Nat} {a1 : Int} {v : Mem} {Q : Int → Mem → Prop} (h : ((a1 < 0 → False) ∧ (¬ a1 < 0 → ((a1 < 2 → ((0 ≤ (w16u (iand (List.getD (sB.getD 32 []) (Int.toNat a1) 0) 255)) ∧ (w16u (iand (List.getD (sB.getD 32 []) (Int.toNat a1) 0) 255)) < 65536) ∧ ((0 ≤ (w16u (iand (List.getD (sB.getD 32 []) (Int.toNat a1) 0) 255)) ∧ (w16u (iand (List.getD (sB.getD 32 []) (Int.toNat a1) 0) 255)) < 65536) ∧ Q (w16u (iand (List.getD (sB.getD 32 []) (Int.toNat a1) 0) 255)) v))) ∧ (¬ a1 < 2 → False))))) : RR t (d + 3) 263 [(2, (-34)), (0, a1)] v Q := w_263_s32 (s_267_s32 ⟨fun c => absurd c (by decide), fun _ => s_269_s76 ⟨fun c1 => (h.1 c1), fun c1 => ⟨fun c2 => ⟨((h.2 c1).1 c2).1, ⟨((h.2 c1).1 c2).2.1, ((h.2 c1).1 c2).2.2⟩⟩, fun c2 => ((h.2 c1).2 c2)⟩⟩⟩)
theorem p_263_s32 {t : Int} {d : Nat} {a1 : Int} {v : Mem} {Q : Int → Mem → Prop} (h : (0 ≤ a1 ∧ a1 < 2) ∧ Q (List.getD (sB.getD 32 []) (Int.toNat a1) 0) v) : RR t (d + 3) 263 [(2, (-34)), (0, a1)] v Q := by
  have e := chrE 32 (Int.toNat a1)
  have e2 := chr_r 32 (Int.toNat a1)
  refine s_263_s32 ?_
  simp only [e]
  exact ⟨fun c => absurd h.1.1 (by omega), fun c => ⟨fun c2 => ⟨⟨e2.1, by omega⟩, ⟨e2.1, by omega⟩, h.2⟩, fun c2 => absurd h.1.2 c2⟩⟩
set_option maxRecDepth 100000 in
theorem w_266_s33 {t : Int} {d : Nat} {v : Mem} {Q : Int → Mem → Prop} (h : (((1 : Int) = 0 → ((-128 ≤ (1 : Int) ∧ (1 : Int) < 128) ∧ Q 1 v)) ∧ (¬ (1 : Int) = 0 → ((-128 ≤ (0 : Int) ∧ (0 : Int) < 128) ∧ Q 0 v)))) : RR t d 266 [(2, (-35))] v Q := wp_sound (K := k_266) (cut := []) (f := 10) (cb := false) rfl h
set_option maxRecDepth 100000 in
theorem s_266_s33 {t : Int} {d : Nat} {v : Mem} {Q : Int → Mem → Prop} (h : Q 0 v) : RR t d 266 [(2, (-35))] v Q := w_266_s33 ⟨fun c => absurd c (by decide), fun _ => ⟨⟨by decide, by decide⟩, h⟩⟩
set_option maxRecDepth 100000 in
theorem w_262_s33 {t : Int} {d : Nat} {v : Mem} {Q : Int → Mem → Prop} (h : (RR t d 266 [(2, (-35))] v (fun x1 v1 => Q (ishr 2 x1) v1))) : RR t (d + 1) 262 [(2, (-35))] v Q := wp_sound (K := k_262) (cut := []) (f := 10) (cb := false) rfl h
set_option maxRecDepth 100000 in
theorem s_262_s33 {t : Int} {d : Nat} {v : Mem} {Q : Int → Mem → Prop} (h : Q 2 v) : RR t (d + 1) 262 [(2, (-35))] v Q := w_262_s33 (s_266_s33 h)
set_option maxRecDepth 100000 in
theorem w_267_s33 {t : Int} {d : Nat} {v : Mem} {Q : Int → Mem → Prop} (h : (((1 : Int) = 0 → (((0 : Int) = 0 ∨ (0 : Int) = 1) ∧ Q 0 v)) ∧ (¬ (1 : Int) = 0 → (((0 : Int) = 0 → (((1 : Int) = 0 ∨ (1 : Int) = 1) ∧ Q 1 v)) ∧ (¬ (0 : Int) = 0 → (((0 : Int) = 0 ∨ (0 : Int) = 1) ∧ Q 0 v)))))) : RR t d 267 [(2, (-35))] v Q := wp_sound (K := k_267) (cut := []) (f := 12) (cb := false) rfl h
set_option maxRecDepth 100000 in
theorem s_267_s33 {t : Int} {d : Nat} {v : Mem} {Q : Int → Mem → Prop} (h : Q 1 v) : RR t d 267 [(2, (-35))] v Q := w_267_s33 ⟨fun c => absurd c (by decide), fun _ => ⟨fun _ => ⟨Or.inr rfl, h⟩, fun c => absurd (by decide) c⟩⟩
set_option maxRecDepth 100000 in
theorem w_269_s77 {t : Int} {d : Nat} {a1 : Int} {v : Mem} {Q : Int → Mem → Prop} (h : (RR t d 268 [(0, a1), (0, 2)] v (fun x1 v1 => ((0 ≤ a1 ∧ a1 < 2) ∧ ((0 ≤ (w16u (iand (List.getD (sB.getD 33 []) (Int.toNat a1) 0) 255)) ∧ (w16u (iand (List.getD (sB.getD 33 []) (Int.toNat a1) 0) 255)) < 65536) ∧ Q (w16u (iand (List.getD (sB.getD 33 []) (Int.toNat a1) 0) 255)) v1))))) : RR t (d + 1) 269 [(2, (-79)), (0, a1)] v Q := wp_sound (K := k_269) (cut := []) (f := 14) (cb := false) rfl h
set_option maxRecDepth 100000 in
theorem s_269_s77 {t : Int} {d : Nat} {a1 : Int} {v : Mem} {Q : Int → Mem → Prop} (h : ((a1 < 0 → False) ∧ (¬ a1 < 0 → ((a1 < 2 → ((0 ≤ (w16u (iand (List.getD (sB.getD 33 []) (Int.toNat a1) 0) 255)) ∧ (w16u (iand (List.getD (sB.getD 33 []) (Int.toNat a1) 0) 255)) < 65536) ∧ Q (w16u (iand (List.getD (sB.getD 33 []) (Int.toNat a1) 0) 255)) v)) ∧ (¬ a1 < 2 → False))))) : RR t (d + 2) 269 [(2, (-79)), (0, a1)] v Q := w_269_s77 (s_268 ⟨fun c1 => (h.1 c1), fun c1 => ⟨fun c2 => ⟨⟨by omega, by omega⟩, ⟨((h.2 c1).1 c2).1, ((h.2 c1).1 c2).2⟩⟩, fun c2 => ((h.2 c1).2 c2)⟩⟩)
set_option maxRecDepth 100000 in
theorem w_263_s33 {t : Int} {d : Nat} {a1 : Int} {v : Mem} {Q : Int → Mem → Prop} (h : (RR t d 267 [(2, (-35))] v (fun x1 v1 => ((x1 = 0 → False) ∧ (¬ x1 = 0 → (RR t d 269 [(2, (-79)), (0, a1)] v1 (fun x2 v2 => ((0 ≤ x2 ∧ x2 < 65536) ∧ Q x2 v2)))))))) : RR t (d + 1) 263 [(2, (-35)), (0, a1)] v Q := wp_sound (K := k_263) (cut := []) (f := 16) (cb := false) rfl h
set_option maxRecDepth 100000 in
theorem s_263_s33 {t : Int} {d : Nat} {a1 : Int} {v : Mem} {Q : Int → Mem → Prop} (h : ((a1 < 0 → False) ∧ (¬ a1 < 0 → ((a1 < 2 → ((0 ≤ (w16u (iand (List.getD (sB.getD 33 []) (Int.toNat a1) 0) 255)) ∧ (w16u (iand (List.getD (sB.getD 33 []) (Int.toNat a1) 0) 255)) < 65536) ∧ ((0 ≤ (w16u (iand (List.getD (sB.getD 33 []) (Int.toNat a1) 0) 255)) ∧ (w16u (iand (List.getD (sB.getD 33 []) (Int.toNat a1) 0) 255)) < 65536) ∧ Q (w16u (iand (List.getD (sB.getD 33 []) (Int.toNat a1) 0) 255)) v))) ∧ (¬ a1 < 2 → False))))) : RR t (d + 3) 263 [(2, (-35)), (0, a1)] v Q := w_263_s33 (s_267_s33 ⟨fun c => absurd c (by decide), fun _ => s_269_s77 ⟨fun c1 => (h.1 c1), fun c1 => ⟨fun c2 => ⟨((h.2 c1).1 c2).1, ⟨((h.2 c1).1 c2).2.1, ((h.2 c1).1 c2).2.2⟩⟩, fun c2 => ((h.2 c1).2 c2)⟩⟩⟩)
theorem p_263_s33 {t : Int} {d : Nat} {a1 : Int} {v : Mem} {Q : Int → Mem → Prop} (h : (0 ≤ a1 ∧ a1 < 2) ∧ Q (List.getD (sB.getD 33 []) (Int.toNat a1) 0) v) : RR t (d + 3) 263 [(2, (-35)), (0, a1)] v Q := by
  have e := chrE 33 (Int.toNat a1)
  have e2 := chr_r 33 (Int.toNat a1)
  refine s_263_s33 ?_
  simp only [e]
  exact ⟨fun c => absurd h.1.1 (by omega), fun c => ⟨fun c2 => ⟨⟨e2.1, by omega⟩, ⟨e2.1, by omega⟩, h.2⟩, fun c2 => absurd h.1.2 c2⟩⟩
set_option maxRecDepth 100000 in
theorem w_266_s34 {t : Int} {d : Nat} {v : Mem} {Q : Int → Mem → Prop} (h : (((1 : Int) = 0 → ((-128 ≤ (1 : Int) ∧ (1 : Int) < 128) ∧ Q 1 v)) ∧ (¬ (1 : Int) = 0 → ((-128 ≤ (0 : Int) ∧ (0 : Int) < 128) ∧ Q 0 v)))) : RR t d 266 [(2, (-36))] v Q := wp_sound (K := k_266) (cut := []) (f := 10) (cb := false) rfl h
set_option maxRecDepth 100000 in
theorem s_266_s34 {t : Int} {d : Nat} {v : Mem} {Q : Int → Mem → Prop} (h : Q 0 v) : RR t d 266 [(2, (-36))] v Q := w_266_s34 ⟨fun c => absurd c (by decide), fun _ => ⟨⟨by decide, by decide⟩, h⟩⟩
set_option maxRecDepth 100000 in
theorem w_262_s34 {t : Int} {d : Nat} {v : Mem} {Q : Int → Mem → Prop} (h : (RR t d 266 [(2, (-36))] v (fun x1 v1 => Q (ishr 1 x1) v1))) : RR t (d + 1) 262 [(2, (-36))] v Q := wp_sound (K := k_262) (cut := []) (f := 10) (cb := false) rfl h
set_option maxRecDepth 100000 in
theorem s_262_s34 {t : Int} {d : Nat} {v : Mem} {Q : Int → Mem → Prop} (h : Q 1 v) : RR t (d + 1) 262 [(2, (-36))] v Q := w_262_s34 (s_266_s34 h)
set_option maxRecDepth 100000 in
theorem w_267_s34 {t : Int} {d : Nat} {v : Mem} {Q : Int → Mem → Prop} (h : (((1 : Int) = 0 → (((0 : Int) = 0 ∨ (0 : Int) = 1) ∧ Q 0 v)) ∧ (¬ (1 : Int) = 0 → (((0 : Int) = 0 → (((1 : Int) = 0 ∨ (1 : Int) = 1) ∧ Q 1 v)) ∧ (¬ (0 : Int) = 0 → (((0 : Int) = 0 ∨ (0 : Int) = 1) ∧ Q 0 v)))))) : RR t d 267 [(2, (-36))] v Q := wp_sound (K := k_267) (cut := []) (f := 12) (cb := false) rfl h
set_option maxRecDepth 100000 in
theorem s_267_s34 {t : Int} {d : Nat} {v : Mem} {Q : Int → Mem → Prop} (h : Q 1 v) : RR t d 267 [(2, (-36))] v Q := w_267_s34 ⟨fun c => absurd c (by decide), fun _ => ⟨fun _ => ⟨Or.inr rfl, h⟩, fun c => absurd (by decide) c⟩⟩
set_option maxRecDepth 100000 in
theorem w_269_s78 {t : Int} {d : Nat} {a1 : Int} {v : Mem} {Q : Int → Mem → Prop} (h : (RR t d 268 [(0, a1), (0, 1)] v (fun x1 v1 => ((0 ≤ a1 ∧ a1 < 1) ∧ ((0 ≤ (w16u (iand (List.getD (sB.getD 34 []) (Int.toNat a1) 0) 255)) ∧ (w16u (iand (List.getD (sB.getD 34 []) (Int.toNat a1) 0) 255)) < 65536) ∧ Q (w16u (iand (List.getD (sB.getD 34 []) (Int.toNat a1) 0) 255)) v1))))) : RR t (d + 1) 269 [(2, (-80)), (0, a1)] v Q := wp_sound (K := k_269) (cut := []) (f := 14) (cb := false) rfl h
set_option maxRecDepth 100000 in
theorem s_269_s78 {t : Int} {d : Nat} {a1 : Int} {v : Mem} {Q : Int → Mem → Prop} (h : ((a1 < 0 → False) ∧ (¬ a1 < 0 → ((a1 < 1 → ((0 ≤ (w16u (iand (List.getD (sB.getD 34 []) (Int.toNat a1) 0) 255)) ∧ (w16u (iand (List.getD (sB.getD 34 []) (Int.toNat a1) 0) 255)) < 65536) ∧ Q (w16u (iand (List.getD (sB.getD 34 []) (Int.toNat a1) 0) 255)) v)) ∧ (¬ a1 < 1 → False))))) : RR t (d + 2) 269 [(2, (-80)), (0, a1)] v Q := w_269_s78 (s_268 ⟨fun c1 => (h.1 c1), fun c1 => ⟨fun c2 => ⟨⟨by omega, by omega⟩, ⟨((h.2 c1).1 c2).1, ((h.2 c1).1 c2).2⟩⟩, fun c2 => ((h.2 c1).2 c2)⟩⟩)
set_option maxRecDepth 100000 in
theorem w_263_s34 {t : Int} {d : Nat} {a1 : Int} {v : Mem} {Q : Int → Mem → Prop} (h : (RR t d 267 [(2, (-36))] v (fun x1 v1 => ((x1 = 0 → False) ∧ (¬ x1 = 0 → (RR t d 269 [(2, (-80)), (0, a1)] v1 (fun x2 v2 => ((0 ≤ x2 ∧ x2 < 65536) ∧ Q x2 v2)))))))) : RR t (d + 1) 263 [(2, (-36)), (0, a1)] v Q := wp_sound (K := k_263) (cut := []) (f := 16) (cb := false) rfl h
set_option maxRecDepth 100000 in
theorem s_263_s34 {t : Int} {d : Nat} {a1 : Int} {v : Mem} {Q : Int → Mem → Prop} (h : ((a1 < 0 → False) ∧ (¬ a1 < 0 → ((a1 < 1 → ((0 ≤ (w16u (iand (List.getD (sB.getD 34 []) (Int.toNat a1) 0) 255)) ∧ (w16u (iand (List.getD (sB.getD 34 []) (Int.toNat a1) 0) 255)) < 65536) ∧ ((0 ≤ (w16u (iand (List.getD (sB.getD 34 []) (Int.toNat a1) 0) 255)) ∧ (w16u (iand (List.getD (sB.getD 34 []) (Int.toNat a1) 0) 255)) < 65536) ∧ Q (w16u (iand (List.getD (sB.getD 34 []) (Int.toNat a1) 0) 255)) v))) ∧ (¬ a1 < 1 → False))))) : RR t (d + 3) 263 [(2, (-36)), (0, a1)] v Q := w_263_s34 (s_267_s34 ⟨fun c => absurd c (by decide), fun _ => s_269_s78 ⟨fun c1 => (h.1 c1), fun c1 => ⟨fun c2 => ⟨((h.2 c1).1 c2).1, ⟨((h.2 c1).1 c2).2.1, ((h.2 c1).1 c2).2.2⟩⟩, fun c2 => ((h.2 c1).2 c2)⟩⟩⟩)
theorem p_263_s34 {t : Int} {d : Nat} {a1 : Int} {v : Mem} {Q : Int → Mem → Prop} (h : (0 ≤ a1 ∧ a1 < 1) ∧ Q (List.getD (sB.getD 34 []) (Int.toNat a1) 0) v) : RR t (d + 3) 263 [(2, (-36)), (0, a1)] v Q := by
  have e := chrE 34 (Int.toNat a1)
  have e2 := chr_r 34 (Int.toNat a1)
  refine s_263_s34 ?_
  simp only [e]
  exact ⟨fun c => absurd h.1.1 (by omega), fun c => ⟨fun c2 => ⟨⟨e2.1, by omega⟩, ⟨e2.1, by omega⟩, h.2⟩, fun c2 => absurd h.1.2 c2⟩⟩
set_option maxRecDepth 100000 in
theorem w_266_s35 {t : Int} {d : Nat} {v : Mem} {Q : Int → Mem → Prop} (h : (((1 : Int) = 0 → ((-128 ≤ (1 : Int) ∧ (1 : Int) < 128) ∧ Q 1 v)) ∧ (¬ (1 : Int) = 0 → ((-128 ≤ (0 : Int) ∧ (0 : Int) < 128) ∧ Q 0 v)))) : RR t d 266 [(2, (-37))] v Q := wp_sound (K := k_266) (cut := []) (f := 10) (cb := false) rfl h
set_option maxRecDepth 100000 in
theorem s_266_s35 {t : Int} {d : Nat} {v : Mem} {Q : Int → Mem → Prop} (h : Q 0 v) : RR t d 266 [(2, (-37))] v Q := w_266_s35 ⟨fun c => absurd c (by decide), fun _ => ⟨⟨by decide, by decide⟩, h⟩⟩
set_option maxRecDepth 100000 in
theorem w_262_s35 {t : Int} {d : Nat} {v : Mem} {Q : Int → Mem → Prop} (h : (RR t d 266 [(2, (-37))] v (fun x1 v1 => Q (ishr 2 x1) v1))) : RR t (d + 1) 262 [(2, (-37))] v Q := wp_sound (K := k_262) (cut := []) (f := 10) (cb := false) rfl h
set_option maxRecDepth 100000 in
theorem s_262_s35 {t : Int} {d : Nat} {v : Mem} {Q : Int → Mem → Prop} (h : Q 2 v) : RR t (d + 1) 262 [(2, (-37))] v Q := w_262_s35 (s_266_s35 h)
set_option maxRecDepth 100000 in
theorem w_267_s35 {t : Int} {d : Nat} {v : Mem} {Q : Int → Mem → Prop} (h : (((1 : Int) = 0 → (((0 : Int) = 0 ∨ (0 : Int) = 1) ∧ Q 0 v)) ∧ (¬ (1 : Int) = 0 → (((0 : Int) = 0 → (((1 : Int) = 0 ∨ (1 : Int) = 1) ∧ Q 1 v)) ∧ (¬ (0 : Int) = 0 → (((0 : Int) = 0 ∨ (0 : Int) = 1) ∧ Q 0 v)))))) : RR t d 267 [(2, (-37))] v Q := wp_sound (K := k_267) (cut := []) (f := 12) (cb := false) rfl h
set_option maxRecDepth 100000 in
theorem s_267_s35 {t : Int} {d : Nat} {v : Mem} {Q : Int → Mem → Prop} (h : Q 1 v) : RR t d 267 [(2, (-37))] v Q := w_267_s35 ⟨fun c => absurd c (by decide), fun _ => ⟨fun _ => ⟨Or.inr rfl, h⟩, fun c => absurd (by decide) c⟩⟩
set_option maxRecDepth 100000 in
theorem w_269_s79 {t : Int} {d : Nat} {a1 : Int} {v : Mem} {Q : Int → Mem → Prop} (h : (RR t d 268 [(0, a1), (0, 2)] v (fun x1 v1 => ((0 ≤ a1 ∧ a1 < 2) ∧ ((0 ≤ (w16u (iand (List.getD (sB.getD 35 []) (Int.toNat a1) 0) 255)) ∧ (w16u (iand (List.getD (sB.getD 35 []) (Int.toNat a1) 0) 255)) < 65536) ∧ Q (w16u (iand (List.getD (sB.getD 35 []) (Int.toNat a1) 0) 255)) v1))))) : RR t (d + 1) 269 [(2, (-81)), (0, a1)] v Q := wp_sound (K := k_269) (cut := []) (f := 14) (cb := false) rfl h
set_option maxRecDepth 100000 in
theorem s_269_s79 {t : Int} {d : Nat} {a1 : Int} {v : Mem} {Q : Int → Mem → Prop} (h : ((a1 < 0 → False) ∧ (¬ a1 < 0 → ((a1 < 2 → ((0 ≤ (w16u (iand (List.getD (sB.getD 35 []) (Int.toNat a1) 0) 255)) ∧ (w16u (iand (List.getD (sB.getD 35 []) (Int.toNat a1) 0) 255)) < 65536) ∧ Q (w16u (iand (List.getD (sB.getD 35 []) (Int.toNat a1) 0) 255)) v)) ∧ (¬ a1 < 2 → False))))) : RR t (d + 2) 269 [(2, (-81)), (0, a1)] v Q := w_269_s79 (s_268 ⟨fun c1 => (h.1 c1), fun c1 => ⟨fun c2 => ⟨⟨by omega, by omega⟩, ⟨((h.2 c1).1 c2).1, ((h.2 c1).1 c2).2⟩⟩, fun c2 => ((h.2 c1).2 c2)⟩⟩)
set_option maxRecDepth 100000 in
theorem w_263_s35 {t : Int} {d : Nat} {a1 : Int} {v : Mem} {Q : Int → Mem → Prop} (h : (RR t d 267 [(2, (-37))] v (fun x1 v1 => ((x1 = 0 → False) ∧ (¬ x1 = 0 → (RR t d 269 [(2, (-81)), (0, a1)] v1 (fun x2 v2 => ((0 ≤ x2 ∧ x2 < 65536) ∧ Q x2 v2)))))))) : RR t (d + 1) 263 [(2, (-37)), (0, a1)] v Q := wp_sound (K := k_263) (cut := []) (f := 16) (cb := false) rfl h
set_option maxRecDepth 100000 in
theorem s_263_s35 {t : Int} {d : Nat} {a1 : Int} {v : Mem} {Q : Int → Mem → Prop} (h : ((a1 < 0 → False) ∧ (¬ a1 < 0 → ((a1 < 2 → ((0 ≤ (w16u (iand (List.getD (sB.getD 35 []) (Int.toNat a1) 0) 255)) ∧ (w16u (iand (List.getD (sB.getD 35 []) (Int.toNat a1) 0) 255)) < 65536) ∧ ((0 ≤ (w16u (iand (List.getD (sB.getD 35 []) (Int.toNat a1) 0) 255)) ∧ (w16u (iand (List.getD (sB.getD 35 []) (Int.toNat a1) 0) 255)) < 65536) ∧ Q (w16u (iand (List.getD (sB.getD 35 []) (Int.toNat a1) 0) 255)) v))) ∧ (¬ a1 < 2 → False))))) : RR t (d + 3) 263 [(2, (-37)), (0, a1)] v Q := w_263_s35 (s_267_s35 ⟨fun c => absurd c (by decide), fun _ => s_269_s79 ⟨fun c1 => (h.1 c1), fun c1 => ⟨fun c2 => ⟨((h.2 c1).1 c2).1, ⟨((h.2 c1).1 c2).2.1, ((h.2 c1).1 c2).2.2⟩⟩, fun c2 => ((h.2 c1).2 c2)⟩⟩⟩)
theorem p_263_s35 {t : Int} {d : Nat} {a1 : Int} {v : Mem} {Q : Int → Mem → Prop} (h : (0 ≤ a1 ∧ a1 < 2) ∧ Q (List.getD (sB.getD 35 []) (Int.toNat a1) 0) v) : RR t (d + 3) 263 [(2, (-37)), (0, a1)] v Q := by
  have e := chrE 35 (Int.toNat a1)
  have e2 := chr_r 35 (Int.toNat a1)
  refine s_263_s35 ?_
  simp only [e]
  exact ⟨fun c => absurd h.1.1 (by omega), fun c => ⟨fun c2 => ⟨⟨e2.1, by omega⟩, ⟨e2.1, by omega⟩, h.2⟩, fun c2 => absurd h.1.2 c2⟩⟩
set_option maxRecDepth 100000 in
theorem w_266_s36 {t : Int} {d : Nat} {v : Mem} {Q : Int → Mem → Prop} (h : (((1 : Int) = 0 → ((-128 ≤ (1 : Int) ∧ (1 : Int) < 128) ∧ Q 1 v)) ∧ (¬ (1 : Int) = 0 → ((-128 ≤ (0 : Int) ∧ (0 : Int) < 128) ∧ Q 0 v)))) : RR t d 266 [(2, (-38))] v Q := wp_sound (K := k_266) (cut := []) (f := 10) (cb := false) rfl h
set_option maxRecDepth 100000 in
theorem s_266_s36 {t : Int} {d : Nat} {v : Mem} {Q : Int → Mem → Prop} (h : Q 0 v) : RR t d 266 [(2, (-38))] v Q := w_266_s36 ⟨fun c => absurd c (by decide), fun _ => ⟨⟨by decide, by decide⟩, h⟩⟩
set_option maxRecDepth 100000 in
theorem w_262_s36 {t : Int} {d : Nat} {v : Mem} {Q : Int → Mem → Prop} (h : (RR t d 266 [(2, (-38))] v (fun x1 v1 => Q (ishr 1 x1) v1))) : RR t (d + 1) 262 [(2, (-38))] v Q := wp_sound (K := k_262) (cut := []) (f := 10) (cb := false) rfl h
set_option maxRecDepth 100000 in
theorem s_262_s36 {t : Int} {d : Nat} {v : Mem} {Q : Int → Mem → Prop} (h : Q 1 v) : RR t (d + 1) 262 [(2, (-38))] v Q := w_262_s36 (s_266_s36 h)
set_option maxRecDepth 100000 in
theorem w_267_s36 {t : Int} {d : Nat} {v : Mem} {Q : Int → Mem → Prop} (h : (((1 : Int) = 0 → (((0 : Int) = 0 ∨ (0 : Int) = 1) ∧ Q 0 v)) ∧ (¬ (1 : Int) = 0 → (((0 : Int) = 0 → (((1 : Int) = 0 ∨ (1 : Int) = 1) ∧ Q 1 v)) ∧ (¬ (0 : Int) = 0 → (((0 : Int) = 0 ∨ (0 : Int) = 1) ∧ Q 0 v)))))) : RR t d 267 [(2, (-38))] v Q := wp_sound (K := k_267) (cut := []) (f := 12) (cb := false) rfl h
set_option maxRecDepth 100000 in
theorem s_267_s36 {t : Int} {d : Nat} {v : Mem} {Q : Int → Mem → Prop} (h : Q 1 v) : RR t d 267 [(2, (-38))] v Q := w_267_s36 ⟨fun c => absurd c (by decide), fun _ => ⟨fun _ => ⟨Or.inr rfl, h⟩, fun c => absurd (by decide) c⟩⟩
set_option maxRecDepth 100000 in
theorem w_269_s80 {t : Int} {d : Nat} {a1 : Int} {v : Mem} {Q : Int → Mem → Prop} (h : (RR t d 268 [(0, a1), (0, 1)] v (fun x1 v1 => ((0 ≤ a1 ∧ a1 < 1) ∧ ((0 ≤ (w16u (iand (List.getD (sB.getD 36 []) (Int.toNat a1) 0) 255)) ∧ (w16u (iand (List.getD (sB.getD 36 []) (Int.toNat a1) 0) 255)) < 65536) ∧ Q (w16u (iand (List.getD (sB.getD 36 []) (Int.toNat a1) 0) 255)) v1))))) : RR t (d + 1) 269 [(2, (-82)), (0, a1)] v Q := wp_sound (K := k_269) (cut := []) (f := 14) (cb := false) rfl h
set_option maxRecDepth 100000 in
theorem s_269_s80 {t : Int} {d : Nat} {a1 : Int} {v : Mem} {Q : Int → Mem → Prop} (h : ((a1 < 0 → False) ∧ (¬ a1 < 0 → ((a1 < 1 → ((0 ≤ (w16u (iand (List.getD (sB.getD 36 []) (Int.toNat a1) 0) 255)) ∧ (w16u (iand (List.getD (sB.getD 36 []) (Int.toNat a1) 0) 255)) < 65536) ∧ Q (w16u (iand (List.getD (sB.getD 36 []) (Int.toNat a1) 0) 255)) v)) ∧ (¬ a1 < 1 → False))))) : RR t (d + 2) 269 [(2, (-82)), (0, a1)] v Q := w_269_s80 (s_268 ⟨fun c1 => (h.1 c1), fun c1 => ⟨fun c2 => ⟨⟨by omega, by omega⟩, ⟨((h.2 c1).1 c2).1, ((h.2 c1).1 c2).2⟩⟩, fun c2 => ((h.2 c1).2 c2)⟩⟩)
set_option maxRecDepth 100000 in
theorem w_263_s36 {t : Int} {d : Nat} {a1 : Int} {v : Mem} {Q : Int → Mem → Prop} (h : (RR t d 267 [(2, (-38))] v (fun x1 v1 => ((x1 = 0 → False) ∧ (¬ x1 = 0 → (RR t d 269 [(2, (-82)), (0, a1)] v1 (fun x2 v2 => ((0 ≤ x2 ∧ x2 < 65536) ∧ Q x2 v2)))))))) : RR t (d + 1) 263 [(2, (-38)), (0, a1)] v Q := wp_sound (K := k_263) (cut := []) (f := 16) (cb := false) rfl h
set_option maxRecDepth 100000 in
theorem s_263_s36 {t : Int} {d : Nat} {a1 : Int} {v : Mem} {Q : Int → Mem → Prop} (h : ((a1 < 0 → False) ∧ (¬ a1 < 0 → ((a1 < 1 → ((0 ≤ (w16u (iand (List.getD (sB.getD 36 []) (Int.toNat a1) 0) 255)) ∧ (w16u (iand (List.getD (sB.getD 36 []) (Int.toNat a1) 0) 255)) < 65536) ∧ ((0 ≤ (w16u (iand (List.getD (sB.getD 36 []) (Int.toNat a1) 0) 255)) ∧ (w16u (iand (List.getD (sB.getD 36 []) (Int.toNat a1) 0) 255)) < 65536) ∧ Q (w16u (iand (List.getD (sB.getD 36 []) (Int.toNat a1) 0) 255)) v))) ∧ (¬ a1 < 1 → False))))) : RR t (d + 3) 263 [(2, (-38)), (0, a1)] v Q := w_263_s36 (s_267_s36 ⟨fun c => absurd c (by decide), fun _ => s_269_s80 ⟨fun c1 => (h.1 c1), fun c1 => ⟨fun c2 => ⟨((h.2 c1).1 c2).1, ⟨((h.2 c1).1 c2).2.1, ((h.2 c1).1 c2).2.2⟩⟩, fun c2 => ((h.2 c1).2 c2)⟩⟩⟩)
theorem p_263_s36 {t : Int} {d : Nat} {a1 : Int} {v : Mem} {Q : Int → Mem → Prop} (h : (0 ≤ a1 ∧ a1 < 1) ∧ Q (List.getD (sB.getD 36 []) (Int.toNat a1) 0) v) : RR t (d + 3) 263 [(2, (-38)), (0, a1)] v Q := by
  have e := chrE 36 (Int.toNat a1)
  have e2 := chr_r 36 (Int.toNat a1)
  refine s_263_s36 ?_
  simp only [e]
  exact ⟨fun c => absurd h.1.1 (by omega), fun c => ⟨fun c2 => ⟨⟨e2.1, by omega⟩, ⟨e2.1, by omega⟩, h.2⟩, fun c2 => absurd h.1.2 c2⟩⟩
set_option maxRecDepth 100000 in
theorem w_266_s37 {t : Int} {d : Nat} {v : Mem} {Q : Int → Mem → Prop} (h : (((1 : Int) = 0 → ((-128 ≤ (1 : Int) ∧ (1 : Int) < 128) ∧ Q 1 v)) ∧ (¬ (1 : Int) = 0 → ((-128 ≤ (0 : Int) ∧ (0 : Int) < 128) ∧ Q 0 v)))) : RR t d 266 [(2, (-39))] v Q := wp_sound (K := k_266) (cut := []) (f := 10) (cb := false) rfl h
set_option maxRecDepth 100000 in
theorem s_266_s37 {t : Int} {d : Nat} {v : Mem} {Q : Int → Mem → Prop} (h : Q 0 v) : RR t d 266 [(2, (-39))] v Q := w_266_s37 ⟨fun c => absurd c (by decide), fun _ => ⟨⟨by decide, by decide⟩, h⟩⟩
set_option maxRecDepth 100000 in
theorem w_262_s37 {t : Int} {d : Nat} {v : Mem} {Q : Int → Mem → Prop} (h : (RR t d 266 [(2, (-39))] v (fun x1 v1 => Q (ishr 1 x1) v1))) : RR t (d + 1) 262 [(2, (-39))] v Q := wp_sound (K := k_262) (cut := []) (f := 10) (cb := false) rfl h
set_option maxRecDepth 100000 in
theorem s_262_s37 {t : Int} {d : Nat} {v : Mem} {Q : Int → Mem → Prop} (h : Q 1 v) : RR t (d + 1) 262 [(2, (-39))] v Q := w_262_s37 (s_266_s37 h)
set_option maxRecDepth 100000 in
theorem w_267_s37 {t : Int} {d : Nat} {v : Mem} {Q : Int → Mem → Prop} (h : (((1 : Int) = 0 → (((0 : Int) = 0 ∨ (0 : Int) = 1) ∧ Q 0 v)) ∧ (¬ (1 : Int) = 0 → (((0 : Int) = 0 → (((1 : Int) = 0 ∨ (1 : Int) = 1) ∧ Q 1 v)) ∧ (¬ (0 : Int) = 0 → (((0 : Int) = 0 ∨ (0 : Int) = 1) ∧ Q 0 v)))))) : RR t d 267 [(2, (-39))] v Q := wp_sound (K := k_267) (cut := []) (f := 12) (cb := false) rfl h
set_option maxRecDepth 100000 in
theorem s_267_s37 {t : Int} {d : Nat} {v : Mem} {Q : Int → Mem → Prop} (h : Q 1 v) : RR t d 267 [(2, (-39))] v Q := w_267_s37 ⟨fun c => absurd c (by decide), fun _ => ⟨fun _ => ⟨Or.inr rfl, h⟩, fun c => absurd (by decide) c⟩⟩
set_option maxRecDepth 100000 in
theorem w_269_s81 {t : Int} {d : Nat} {a1 : Int} {v : Mem} {Q : Int → Mem → Prop} (h : (RR t d 268 [(0, a1), (0, 1)] v (fun x1 v1 => ((0 ≤ a1 ∧ a1 < 1) ∧ ((0 ≤ (w16u (iand (List.getD (sB.getD 37 []) (Int.toNat a1) 0) 255)) ∧ (w16u (iand (List.getD (sB.getD 37 []) (Int.toNat a1) 0) 255)) < 65536) ∧ Q (w16u (iand (List.getD (sB.getD 37 []) (Int.toNat a1) 0) 255)) v1))))) : RR t (d + 1) 269 [(2, (-83)), (0, a1)] v Q := wp_sound (K := k_269) (cut := []) (f := 14) (cb := false) rfl h
set_option maxRecDepth 100000 in
theorem s_269_s81 {t : Int} {d : Nat} {a1 : Int} {v : Mem} {Q : Int → Mem → Prop} (h : ((a1 < 0 → False) ∧ (¬ a1 < 0 → ((a1 < 1 → ((0 ≤ (w16u (iand (List.getD (sB.getD 37 []) (Int.toNat a1) 0) 255)) ∧ (w16u (iand (List.getD (sB.getD 37 []) (Int.toNat a1) 0) 255)) < 65536) ∧ Q (w16u (iand (List.getD (sB.getD 37 []) (Int.toNat a1) 0) 255)) v)) ∧ (¬ a1 < 1 → False))))) : RR t (d + 2) 269 [(2, (-83)), (0, a1)] v Q := w_269_s81 (s_268 ⟨fun c1 => (h.1 c1), fun c1 => ⟨fun c2 => ⟨⟨by omega, by omega⟩, ⟨((h.2 c1).1 c2).1, ((h.2 c1).1 c2).2⟩⟩, fun c2 => ((h.2 c1).2 c2)⟩⟩)
set_option maxRecDepth 100000 in
theorem w_263_s37 {t : Int} {d : Nat} {a1 : Int} {v : Mem} {Q : Int → Mem → Prop} (h : (RR t d 267 [(2, (-39))] v (fun x1 v1 => ((x1 = 0 → False) ∧ (¬ x1 = 0 → (RR t d 269 [(2, (-83)), (0, a1)] v1 (fun x2 v2 => ((0 ≤ x2 ∧ x2 < 65536) ∧ Q x2 v2)))))))) : RR t (d + 1) 263 [(2, (-39)), (0, a1)] v Q := wp_sound (K := k_263) (cut := []) (f := 16) (cb := false) rfl h
set_option maxRecDepth 100000 in
theorem s_263_s37 {t : Int} {d : Nat} {a1 : Int} {v : Mem} {Q : Int → Mem → Prop} (h : ((a1 < 0 → False) ∧ (¬ a1 < 0 → ((a1 < 1 → ((0 ≤ (w16u (iand (List.getD (sB.getD 37 []) (Int.toNat a1) 0) 255)) ∧ (w16u (iand (List.getD (sB.getD 37 []) (Int.toNat a1) 0) 255)) < 65536) ∧ ((0 ≤ (w16u (iand (List.getD (sB.getD 37 []) (Int.toNat a1) 0) 255)) ∧ (w16u (iand (List.getD (sB.getD 37 []) (Int.toNat a1) 0) 255)) < 65536) ∧ Q (w16u (iand (List.getD (sB.getD 37 []) (Int.toNat a1) 0) 255)) v))) ∧ (¬ a1 < 1 → False))))) : RR t (d + 3) 263 [(2, (-39)), (0, a1)] v Q := w_263_s37 (s_267_s37 ⟨fun c => absurd c (by decide), fun _ => s_269_s81 ⟨fun c1 => (h.1 c1), fun c1 => ⟨fun c2 => ⟨((h.2 c1).1 c2).1, ⟨((h.2 c1).1 c2).2.1, ((h.2 c1).1 c2).2.2⟩⟩, fun c2 => ((h.2 c1).2 c2)⟩⟩⟩)
theorem p_263_s37 {t : Int} {d : Nat} {a1 : Int} {v : Mem} {Q : Int → Mem → Prop} (h : (0 ≤ a1 ∧ a1 < 1) ∧ Q (List.getD (sB.getD 37 []) (Int.toNat a1) 0) v) : RR t (d + 3) 263 [(2, (-39)), (0, a1)] v Q := by
  have e := chrE 37 (Int.toNat a1)
  have e2 := chr_r 37 (Int.toNat a1)
  refine s_263_s37 ?_
  simp only [e]
  exact ⟨fun c => absurd h.1.1 (by omega), fun c => ⟨fun c2 => ⟨⟨e2.1, by omega⟩, ⟨e2.1, by omega⟩, h.2⟩, fun c2 => absurd h.1.2 c2⟩⟩
set_option maxRecDepth 100000 in
theorem w_266_s38 {t : Int} {d : Nat} {v : Mem} {Q : Int → Mem → Prop} (h : (((1 : Int) = 0 → ((-128 ≤ (1 : Int) ∧ (1 : Int) < 128) ∧ Q 1 v)) ∧ (¬ (1 : Int) = 0 → ((-128 ≤ (0 : Int) ∧ (0 : Int) < 128) ∧ Q 0 v)))) : RR t d 266 [(2, (-40))] v Q := wp_sound (K := k_266) (cut := []) (f := 10) (cb := false) rfl h
set_option maxRecDepth 100000 in
theorem s_266_s38 {t : Int} {d : Nat} {v : Mem} {Q : Int → Mem → Prop} (h : Q 0 v) : RR t d 266 [(2, (-40))] v Q := w_266_s38 ⟨fun c => absurd c (by decide), fun _ => ⟨⟨by decide, by decide⟩, h⟩⟩
set_option maxRecDepth 100000 in
theorem w_262_s38 {t : Int} {d : Nat} {v : Mem} {Q : Int → Mem → Prop} (h : (RR t d 266 [(2, (-40))] v (fun x1 v1 => Q (ishr 1 x1) v1))) : RR t (d + 1) 262 [(2, (-40))] v Q := wp_sound (K := k_262) (cut := []) (f := 10) (cb := false) rfl h
set_option maxRecDepth 100000 in
theorem s_262_s38 {t : Int} {d : Nat} {v : Mem} {Q : Int → Mem → Prop} (h : Q 1 v) : RR t (d + 1) 262 [(2, (-40))] v Q := w_262_s38 (s_266_s38 h)
set_option maxRecDepth 100000 in
theorem w_267_s38 {t : Int} {d : Nat} {v : Mem} {Q : Int → Mem → Prop} (h : (((1 : Int) = 0 → (((0 : Int) = 0 ∨ (0 : Int) = 1) ∧ Q 0 v)) ∧ (¬ (1 : Int) = 0 → (((0 : Int) = 0 → (((1 : Int) = 0 ∨ (1 : Int) = 1) ∧ Q 1 v)) ∧ (¬ (0 : Int) = 0 → (((0 : Int) = 0 ∨ (0 : Int) = 1) ∧ Q 0 v)))))) : RR t d 267 [(2, (-40))] v Q := wp_sound (K := k_267) (cut := []) (f := 12) (cb := false) rfl h
set_option maxRecDepth 100000 in
theorem s_267_s38 {t : Int} {d : Nat} {v : Mem} {Q : Int → Mem → Prop} (h : Q 1 v) : RR t d 267 [(2, (-40))] v Q := w_267_s38 ⟨fun c => absurd c (by decide), fun _ => ⟨fun _ => ⟨Or.inr rfl, h⟩, fun c => absurd (by decide) c⟩⟩
set_option maxRecDepth 100000 in
theorem w_269_s82 {t : Int} {d : Nat} {a1 : Int} {v : Mem} {Q : Int → Mem → Prop} (h : (RR t d 268 [(0, a1), (0, 1)] v (fun x1 v1 => ((0 ≤ a1 ∧ a1 < 1) ∧ ((0 ≤ (w16u (iand (List.getD (sB.getD 38 []) (Int.toNat a1) 0) 255)) ∧ (w16u (iand (List.getD (sB.getD 38 []) (Int.toNat a1) 0) 255)) < 65536) ∧ Q (w16u (iand (List.getD (sB.getD 38 []) (Int.toNat a1) 0) 255)) v1))))) : RR t (d + 1) 269 [(2, (-84)), (0, a1)] v Q := wp_sound (K := k_269) (cut := []) (f := 14) (cb := false) rfl h
set_option maxRecDepth 100000 in
theorem s_269_s82 {t : Int} {d : Nat} {a1 : Int} {v : Mem} {Q : Int → Mem → Prop} (h : ((a1 < 0 → False) ∧ (¬ a1 < 0 → ((a1 < 1 → ((0 ≤ (w16u (iand (List.getD (sB.getD 38 []) (Int.toNat a1) 0) 255)) ∧ (w16u (iand (List.getD (sB.getD 38 []) (Int.toNat a1) 0) 255)) < 65536) ∧ Q (w16u (iand (List.getD (sB.getD 38 []) (Int.toNat a1) 0) 255)) v)) ∧ (¬ a1 < 1 → False))))) : RR t (d + 2) 269 [(2, (-84)), (0, a1)] v Q := w_269_s82 (s_268 ⟨fun c1 => (h.1 c1), fun c1 => ⟨fun c2 => ⟨⟨by omega, by omega⟩, ⟨((h.2 c1).1 c2).1, ((h.2 c1).1 c2).2⟩⟩, fun c2 => ((h.2 c1).2 c2)⟩⟩)
set_option maxRecDepth 100000 in
theorem w_263_s38 {t : Int} {d : Nat} {a1 : Int} {v : Mem} {Q : Int → Mem → Prop} (h : (RR t d 267 [(2, (-40))] v (fun x1 v1 => ((x1 = 0 → False) ∧ (¬ x1 = 0 → (RR t d 269 [(2, (-84)), (0, a1)] v1 (fun x2 v2 => ((0 ≤ x2 ∧ x2 < 65536) ∧ Q x2 v2)))))))) : RR t (d + 1) 263 [(2, (-40)), (0, a1)] v Q := wp_sound (K := k_263) (cut := []) (f := 16) (cb := false) rfl h
set_option maxRecDepth 100000 in
theorem s_263_s38 {t : Int} {d : Nat} {a1 : Int} {v : Mem} {Q : Int → Mem → Prop} (h : ((a1 < 0 → False) ∧ (¬ a1 < 0 → ((a1 < 1 → ((0 ≤ (w16u (iand (List.getD (sB.getD 38 []) (Int.toNat a1) 0) 255)) ∧ (w16u (iand (List.getD (sB.getD 38 []) (Int.toNat a1) 0) 255)) < 65536) ∧ ((0 ≤ (w16u (iand (List.getD (sB.getD 38 []) (Int.toNat a1) 0) 255)) ∧ (w16u (iand (List.getD (sB.getD 38 []) (Int.toNat a1) 0) 255)) < 65536) ∧ Q (w16u (iand (List.getD (sB.getD 38 []) (Int.toNat a1) 0) 255)) v))) ∧ (¬ a1 < 1 → False))))) : RR t (d + 3) 263 [(2, (-40)), (0, a1)] v Q := w_263_s38 (s_267_s38 ⟨fun c => absurd c (by decide), fun _ => s_269_s82 ⟨fun c1 => (h.1 c1), fun c1 => ⟨fun c2 => ⟨((h.2 c1).1 c2).1, ⟨((h.2 c1).1 c2).2.1, ((h.2 c1).1 c2).2.2⟩⟩, fun c2 => ((h.2 c1).2 c2)⟩⟩⟩)
theorem p_263_s38 {t : Int} {d : Nat} {a1 : Int} {v : Mem} {Q : Int → Mem → Prop} (h : (0 ≤ a1 ∧ a1 < 1) ∧ Q (List.getD (sB.getD 38 []) (Int.toNat a1) 0) v) : RR t (d + 3) 263 [(2, (-40)), (0, a1)] v Q := by
  have e := chrE 38 (Int.toNat a1)
  have e2 := chr_r 38 (Int.toNat a1)
  refine s_263_s38 ?_
  simp only [e]
  exact ⟨fun c => absurd h.1.1 (by omega), fun c => ⟨fun c2 => ⟨⟨e2.1, by omega⟩, ⟨e2.1, by omega⟩, h.2⟩, fun c2 => absurd h.1.2 c2⟩⟩
set_option maxRecDepth 100000 in
theorem w_266_s39 {t : Int} {d : Nat} {v : Mem} {Q : Int → Mem → Prop} (h : (((1 : Int) = 0 → ((-128 ≤ (1 : Int) ∧ (1 : Int) < 128) ∧ Q 1 v)) ∧ (¬ (1 : Int) = 0 → ((-128 ≤ (0 : Int) ∧ (0 : Int) < 128) ∧ Q 0 v)))) : RR t d 266 [(2, (-41))] v Q := wp_sound (K := k_266) (cut := []) (f := 10) (cb := false) rfl h
set_option maxRecDepth 100000 in
theorem s_266_s39 {t : Int} {d : Nat} {v : Mem} {Q : Int → Mem → Prop} (h : Q 0 v) : RR t d 266 [(2, (-41))] v Q := w_266_s39 ⟨fun c => absurd c (by decide), fun _ => ⟨⟨by decide, by decide⟩, h⟩⟩
set_option maxRecDepth 100000 in
theorem w_262_s39 {t : Int} {d : Nat} {v : Mem} {Q : Int → Mem → Prop} (h : (RR t d 266 [(2, (-41))] v (fun x1 v1 => Q (ishr 1 x1) v1))) : RR t (d + 1) 262 [(2, (-41))] v Q := wp_sound (K := k_262) (cut := []) (f := 10) (cb := false) rfl h
set_option maxRecDepth 100000 in
theorem s_262_s39 {t : Int} {d : Nat} {v : Mem} {Q : Int → Mem → Prop} (h : Q 1 v) : RR t (d + 1) 262 [(2, (-41))] v Q := w_262_s39 (s_266_s39 h)
set_option maxRecDepth 100000 in
theorem w_267_s39 {t : Int} {d : Nat} {v : Mem} {Q : Int → Mem → Prop} (h : (((1 : Int) = 0 → (((0 : Int) = 0 ∨ (0 : Int) = 1) ∧ Q 0 v)) ∧ (¬ (1 : Int) = 0 → (((0 : Int) = 0 → (((1 : Int) = 0 ∨ (1 : Int) = 1) ∧ Q 1 v)) ∧ (¬ (0 : Int) = 0 → (((0 : Int) = 0 ∨ (0 : Int) = 1) ∧ Q 0 v)))))) : RR t d 267 [(2, (-41))] v Q := wp_sound (K := k_267) (cut := []) (f := 12) (cb := false) rfl h
set_option maxRecDepth 100000 in
theorem s_267_s39 {t : Int} {d : Nat} {v : Mem} {Q : Int → Mem → Prop} (h : Q 1 v) : RR t d 267 [(2, (-41))] v Q := w_267_s39 ⟨fun c => absurd c (by decide), fun _ => ⟨fun _ => ⟨Or.inr rfl, h⟩, fun c => absurd (by decide) c⟩⟩
set_option maxRecDepth 100000 in
theorem w_269_s83 {t : Int} {d : Nat} {a1 : Int} {v : Mem} {Q : Int → Mem → Prop} (h : (RR t d 268 [(0, a1), (0, 1)] v (fun x1 v1 => ((0 ≤ a1 ∧ a1 < 1) ∧ ((0 ≤ (w16u (iand (List.getD (sB.getD 39 []) (Int.toNat a1) 0) 255)) ∧ (w16u (iand (List.getD (sB.getD 39 []) (Int.toNat a1) 0) 255)) < 65536) ∧ Q (w16u (iand (List.getD (sB.getD 39 []) (Int.toNat a1) 0) 255)) v1))))) : RR t (d + 1) 269 [(2, (-85)), (0, a1)] v Q := wp_sound (K := k_269) (cut := []) (f := 14) (cb := false) rfl h
set_option maxRecDepth 100000 in
theorem s_269_s83 {t : Int} {d : Nat} {a1 : Int} {v : Mem} {Q : Int → Mem → Prop} (h : ((a1 < 0 → False) ∧ (¬ a1 < 0 → ((a1 < 1 → ((0 ≤ (w16u (iand (List.getD (sB.getD 39 []) (Int.toNat a1) 0) 255)) ∧ (w16u (iand (List.getD (sB.getD 39 []) (Int.toNat a1) 0) 255)) < 65536) ∧ Q (w16u (iand (List.getD (sB.getD 39 []) (Int.toNat a1) 0) 255)) v)) ∧ (¬ a1 < 1 → False))))) : RR t (d + 2) 269 [(2, (-85)), (0, a1)] v Q := w_269_s83 (s_268 ⟨fun c1 => (h.1 c1), fun c1 => ⟨fun c2 => ⟨⟨by omega, by omega⟩, ⟨((h.2 c1).1 c2).1, ((h.2 c1).1 c2).2⟩⟩, fun c2 => ((h.2 c1).2 c2)⟩⟩)
set_option maxRecDepth 100000 in
theorem w_263_s39 {t : Int} {d : Nat} {a1 : Int} {v : Mem} {Q : Int → Mem → Prop} (h : (RR t d 267 [(2, (-41))] v (fun x1 v1 => ((x1 = 0 → False) ∧ (¬ x1 = 0 → (RR t d 269 [(2, (-85)), (0, a1)] v1 (fun x2 v2 => ((0 ≤ x2 ∧ x2 < 65536) ∧ Q x2 v2)))))))) : RR t (d + 1) 263 [(2, (-41)), (0, a1)] v Q := wp_sound (K := k_263) (cut := []) (f := 16) (cb := false) rfl h
set_option maxRecDepth 100000 in
theorem s_263_s39 {t : Int} {d : Nat} {a1 : Int} {v : Mem} {Q : Int → Mem → Prop} (h : ((a1 < 0 → False) ∧ (¬ a1 < 0 → ((a1 < 1 → ((0 ≤ (w16u (iand (List.getD (sB.getD 39 []) (Int.toNat a1) 0) 255)) ∧ (w16u (iand (List.getD (sB.getD 39 []) (Int.toNat a1) 0) 255)) < 65536) ∧ ((0 ≤ (w16u (iand (List.getD (sB.getD 39 []) (Int.toNat a1) 0) 255)) ∧ (w16u (iand (List.getD (sB.getD 39 []) (Int.toNat a1) 0) 255)) < 65536) ∧ Q (w16u (iand (List.getD (sB.getD 39 []) (Int.toNat a1) 0) 255)) v))) ∧ (¬ a1 < 1 → False))))) : RR t (d + 3) 263 [(2, (-41)), (0, a1)] v Q := w_263_s39 (s_267_s39 ⟨fun c => absurd c (by decide), fun _ => s_269_s83 ⟨fun c1 => (h.1 c1), fun c1 => ⟨fun c2 => ⟨((h.2 c1).1 c2).1, ⟨((h.2 c1).1 c2).2.1, ((h.2 c1).1 c2).2.2⟩⟩, fun c2 => ((h.2 c1).2 c2)⟩⟩⟩)
theorem p_263_s39 {t : Int} {d : Nat} {a1 : Int} {v : Mem} {Q : Int → Mem → Prop} (h : (0 ≤ a1 ∧ a1 < 1) ∧ Q (List.getD (sB.getD 39 []) (Int.toNat a1) 0) v) : RR t (d + 3) 263 [(2, (-41)), (0, a1)] v Q := by
  have e := chrE 39 (Int.toNat a1)
  have e2 := chr_r 39 (Int.toNat a1)
  refine s_263_s39 ?_
  simp only [e]
  exact ⟨fun c => absurd h.1.1 (by omega), fun c => ⟨fun c2 => ⟨⟨e2.1, by omega⟩, ⟨e2.1, by omega⟩, h.2⟩, fun c2 => absurd h.1.2 c2⟩⟩
set_option maxRecDepth 100000 in
theorem w_266_s40 {t : Int} {d : Nat} {v : Mem} {Q : Int → Mem → Prop} (h : (((1 : Int) = 0 → ((-128 ≤ (1 : Int) ∧ (1 : Int) < 128) ∧ Q 1 v)) ∧ (¬ (1 : Int) = 0 → ((-128 ≤ (0 : Int) ∧ (0 : Int) < 128) ∧ Q 0 v)))) : RR t d 266 [(2, (-42))] v Q := wp_sound (K := k_266) (cut := []) (f := 10) (cb := false) rfl h
set_option maxRecDepth 100000 in
theorem s_266_s40 {t : Int} {d : Nat} {v : Mem} {Q : Int → Mem → Prop} (h : Q 0 v) : RR t d 266 [(2, (-42))] v Q := w_266_s40 ⟨fun c => absurd c (by decide), fun _ => ⟨⟨by decide, by decide⟩, h⟩⟩
set_option maxRecDepth 100000 in
theorem w_262_s40 {t : Int} {d : Nat} {v : Mem} {Q : Int → Mem → Prop} (h : (RR t d 266 [(2, (-42))] v (fun x1 v1 => Q (ishr 1 x1) v1))) : RR t (d + 1) 262 [(2, (-42))] v Q := wp_sound (K := k_262) (cut := []) (f := 10) (cb := false) rfl h
set_option maxRecDepth 100000 in
theorem s_262_s40 {t : Int} {d : Nat} {v : Mem} {Q : Int → Mem → Prop} (h : Q 1 v) : RR t (d + 1) 262 [(2, (-42))] v Q := w_262_s40 (s_266_s40 h)
set_option maxRecDepth 100000 in
theorem w_267_s40 {t : Int} {d : Nat} {v : Mem} {Q : Int → Mem → Prop} (h : (((1 : Int) = 0 → (((0 : Int) = 0 ∨ (0 : Int) = 1) ∧ Q 0 v)) ∧ (¬ (1 : Int) = 0 → (((0 : Int) = 0 → (((1 : Int) = 0 ∨ (1 : Int) = 1) ∧ Q 1 v)) ∧ (¬ (0 : Int) = 0 → (((0 : Int) = 0 ∨ (0 : Int) = 1) ∧ Q 0 v)))))) : RR t d 267 [(2, (-42))] v Q := wp_sound (K := k_267) (cut := []) (f := 12) (cb := false) rfl h
set_option maxRecDepth 100000 in
theorem s_267_s40 {t : Int} {d : Nat} {v : Mem} {Q : Int → Mem → Prop} (h : Q 1 v) : RR t d 267 [(2, (-42))] v Q := w_267_s40 ⟨fun c => absurd c (by decide), fun _ => ⟨fun _ => ⟨Or.inr rfl, h⟩, fun c => absurd (by decide) c⟩⟩
set_option maxRecDepth 100000 in
theorem w_269_s84 {t : Int} {d : Nat} {a1 : Int} {v : Mem} {Q : Int → Mem → Prop} (h : (RR t d 268 [(0, a1), (0, 1)] v (fun x1 v1 => ((0 ≤ a1 ∧ a1 < 1) ∧ ((0 ≤ (w16u (iand (List.getD (sB.getD 40 []) (Int.toNat a1) 0) 255)) ∧ (w16u (iand (List.getD (sB.getD 40 []) (Int.toNat a1) 0) 255)) < 65536) ∧ Q (w16u (iand (List.getD (sB.getD 40 []) (Int.toNat a1) 0) 255)) v1))))) : RR t (d + 1) 269 [(2, (-86)), (0, a1)] v Q := wp_sound (K := k_269) (cut := []) (f := 14) (cb := false) rfl h
set_option maxRecDepth 100000 in
theorem s_269_s84 {t : Int} {d : Nat} {a1 : Int} {v : Mem} {Q : Int → Mem → Prop} (h : ((a1 < 0 → False) ∧ (¬ a1 < 0 → ((a1 < 1 → ((0 ≤ (w16u (iand (List.getD (sB.getD 40 []) (Int.toNat a1) 0) 255)) ∧ (w16u (iand (List.getD (sB.getD 40 []) (Int.toNat a1) 0) 255)) < 65536) ∧ Q (w16u (iand (List.getD (sB.getD 40 []) (Int.toNat a1) 0) 255)) v)) ∧ (¬ a1 < 1 → False))))) : RR t (d + 2) 269 [(2, (-86)), (0, a1)] v Q := w_269_s84 (s_268 ⟨fun c1 => (h.1 c1), fun c1 => ⟨fun c2 => ⟨⟨by omega, by omega⟩, ⟨((h.2 c1).1 c2).1, ((h.2 c1).1 c2).2⟩⟩, fun c2 => ((h.2 c1).2 c2)⟩⟩)
set_option maxRecDepth 100000 in
theorem w_263_s40 {t : Int} {d : Nat} {a1 : Int} {v : Mem} {Q : Int → Mem → Prop} (h : (RR t d 267 [(2, (-42))] v (fun x1 v1 => ((x1 = 0 → False) ∧ (¬ x1 = 0 → (RR t d 269 [(2, (-86)), (0, a1)] v1 (fun x2 v2 => ((0 ≤ x2 ∧ x2 < 65536) ∧ Q x2 v2)))))))) : RR t (d + 1) 263 [(2, (-42)), (0, a1)] v Q := wp_sound (K := k_263) (cut := []) (f := 16) (cb := false) rfl h
set_option maxRecDepth 100000 in
theorem s_263_s40 {t : Int} {d : Nat} {a1 : Int} {v : Mem} {Q : Int → Mem → Prop} (h : ((a1 < 0 → False) ∧ (¬ a1 < 0 → ((a1 < 1 → ((0 ≤ (w16u (iand (List.getD (sB.getD 40 []) (Int.toNat a1) 0) 255)) ∧ (w16u (iand (List.getD (sB.getD 40 []) (Int.toNat a1) 0) 255)) < 65536) ∧ ((0 ≤ (w16u (iand (List.getD (sB.getD 40 []) (Int.toNat a1) 0) 255)) ∧ (w16u (iand (List.getD (sB.getD 40 []) (Int.toNat a1) 0) 255)) < 65536) ∧ Q (w16u (iand (List.getD (sB.getD 40 []) (Int.toNat a1) 0) 255)) v))) ∧ (¬ a1 < 1 → False))))) : RR t (d + 3) 263 [(2, (-42)), (0, a1)] v Q := w_263_s40 (s_267_s40 ⟨fun c => absurd c (by decide), fun _ => s_269_s84 ⟨fun c1 => (h.1 c1), fun c1 => ⟨fun c2 => ⟨((h.2 c1).1 c2).1, ⟨((h.2 c1).1 c2).2.1, ((h.2 c1).1 c2).2.2⟩⟩, fun c2 => ((h.2 c1).2 c2)⟩⟩⟩)
theorem p_263_s40 {t : Int} {d : Nat} {a1 : Int} {v : Mem} {Q : Int → Mem → Prop} (h : (0 ≤ a1 ∧ a1 < 1) ∧ Q (List.getD (sB.getD 40 []) (Int.toNat a1) 0) v) : RR t (d + 3) 263 [(2, (-42)), (0, a1)] v Q := by
  have e := chrE 40 (Int.toNat a1)
  have e2 := chr_r 40 (Int.toNat a1)
  refine s_263_s40 ?_
  simp only [e]
  exact ⟨fun c => absurd h.1.1 (by omega), fun c => ⟨fun c2 => ⟨⟨e2.1, by omega⟩, ⟨e2.1, by omega⟩, h.2⟩, fun c2 => absurd h.1.2 c2⟩⟩
set_option maxRecDepth 100000 in
theorem w_266_s41 {t : Int} {d : Nat} {v : Mem} {Q : Int → Mem → Prop} (h : (((1 : Int) = 0 → ((-128 ≤ (1 : Int) ∧ (1 : Int) < 128) ∧ Q 1 v)) ∧ (¬ (1 : Int) = 0 → ((-128 ≤ (0 : Int) ∧ (0 : Int) < 128) ∧ Q 0 v)))) : RR t d 266 [(2, (-43))] v Q := wp_sound (K := k_266) (cut := []) (f := 10) (cb := false) rfl h
set_option maxRecDepth 100000 in
theorem s_266_s41 {t : Int} {d : Nat} {v : Mem} {Q : Int → Mem → Prop} (h : Q 0 v) : RR t d 266 [(2, (-43))] v Q := w_266_s41 ⟨fun c => absurd c (by decide), fun _ => ⟨⟨by decide, by decide⟩, h⟩⟩
set_option maxRecDepth 100000 in
theorem w_262_s41 {t : Int} {d : Nat} {v : Mem} {Q : Int → Mem → Prop} (h : (RR t d 266 [(2, (-43))] v (fun x1 v1 => Q (ishr 4 x1) v1))) : RR t (d + 1) 262 [(2, (-43))] v Q := wp_sound (K := k_262) (cut := []) (f := 10) (cb := false) rfl h
set_option maxRecDepth 100000 in
theorem s_262_s41 {t : Int} {d : Nat} {v : Mem} {Q : Int → Mem → Prop} (h : Q 4 v) : RR t (d + 1) 262 [(2, (-43))] v Q := w_262_s41 (s_266_s41 h)
set_option maxRecDepth 100000 in
theorem w_267_s41 {t : Int} {d : Nat} {v : Mem} {Q : Int → Mem → Prop} (h : (((1 : Int) = 0 → (((0 : Int) = 0 ∨ (0 : Int) = 1) ∧ Q 0 v)) ∧ (¬ (1 : Int) = 0 → (((0 : Int) = 0 → (((1 : Int) = 0 ∨ (1 : Int) = 1) ∧ Q 1 v)) ∧ (¬ (0 : Int) = 0 → (((0 : Int) = 0 ∨ (0 : Int) = 1) ∧ Q 0 v)))))) : RR t d 267 [(2, (-43))] v Q := wp_sound (K := k_267) (cut := []) (f := 12) (cb := false) rfl h
set_option maxRecDepth 100000 in
theorem s_267_s41 {t : Int} {d : Nat} {v : Mem} {Q : Int → Mem → Prop} (h : Q 1 v) : RR t d 267 [(2, (-43))] v Q := w_267_s41 ⟨fun c => absurd c (by decide), fun _ => ⟨fun _ => ⟨Or.inr rfl, h⟩, fun c => absurd (by decide) c⟩⟩
set_option maxRecDepth 100000 in
theorem w_269_s85 {t : Int} {d : Nat} {a1 : Int} {v : Mem} {Q : Int → Mem → Prop} (h : (RR t d 268 [(0, a1), (0, 4)] v (fun x1 v1 => ((0 ≤ a1 ∧ a1 < 4) ∧ ((0 ≤ (w16u (iand (List.getD (sB.getD 41 []) (Int.toNat a1) 0) 255)) ∧ (w16u (iand (List.getD (sB.getD 41 []) (Int.toNat a1) 0) 255)) < 65536) ∧ Q (w16u (iand (List.getD (sB.getD 41 []) (Int.toNat a1) 0) 255)) v1))))) : RR t (d + 1) 269 [(2, (-87)), (0, a1)] v Q := wp_sound (K := k_269) (cut := []) (f := 14) (cb := false) rfl h
set_option maxRecDepth 100000 in
theorem s_269_s85 {t : Int} {d : Nat} {a1 : Int} {v : Mem} {Q : Int → Mem → Prop} (h : ((a1 < 0 → False) ∧ (¬ a1 < 0 → ((a1 < 4 → ((0 ≤ (w16u (iand (List.getD (sB.getD 41 []) (Int.toNat a1) 0) 255)) ∧ (w16u (iand (List.getD (sB.getD 41 []) (Int.toNat a1) 0) 255)) < 65536) ∧ Q (w16u (iand (List.getD (sB.getD 41 []) (Int.toNat a1) 0) 255)) v)) ∧ (¬ a1 < 4 → False))))) : RR t (d + 2) 269 [(2, (-87)), (0, a1)] v Q := w_269_s85 (s_268 ⟨fun c1 => (h.1 c1), fun c1 => ⟨fun c2 => ⟨⟨by omega, by omega⟩, ⟨((h.2 c1).1 c2).1, ((h.2 c1).1 c2).2⟩⟩, fun c2 => ((h.2 c1).2 c2)⟩⟩)
set_option maxRecDepth 100000 in
theorem w_263_s41 {t : Int} {d : Nat} {a1 : Int} {v : Mem} {Q : Int → Mem → Prop} (h : (RR t d 267 [(2, (-43))] v (fun x1 v1 => ((x1 = 0 → False) ∧ (¬ x1 = 0 → (RR t d 269 [(2, (-87)), (0, a1)] v1 (fun x2 v2 => ((0 ≤ x2 ∧ x2 < 65536) ∧ Q x2 v2)))))))) : RR t (d + 1) 263 [(2, (-43)), (0, a1)] v Q := wp_sound (K := k_263) (cut := []) (f := 16) (cb := false) rfl h
set_option maxRecDepth 100000 in
theorem s_263_s41 {t : Int} {d : Nat} {a1 : Int} {v : Mem} {Q : Int → Mem → Prop} (h : ((a1 < 0 → False) ∧ (¬ a1 < 0 → ((a1 < 4 → ((0 ≤ (w16u (iand (List.getD (sB.getD 41 []) (Int.toNat a1) 0) 255)) ∧ (w16u (iand (List.getD (sB.getD 41 []) (Int.toNat a1) 0) 255)) < 65536) ∧ ((0 ≤ (w16u (iand (List.getD (sB.getD 41 []) (Int.toNat a1) 0) 255)) ∧ (w16u (iand (List.getD (sB.getD 41 []) (Int.toNat a1) 0) 255)) < 65536) ∧ Q (w16u (iand (List.getD (sB.getD 41 []) (Int.toNat a1) 0) 255)) v))) ∧ (¬ a1 < 4 → False))))) : RR t (d + 3) 263 [(2, (-43)), (0, a1)] v Q := w_263_s41 (s_267_s41 ⟨fun c => absurd c (by decide), fun _ => s_269_s85 ⟨fun c1 => (h.1 c1), fun c1 => ⟨fun c2 => ⟨((h.2 c1).1 c2).1, ⟨((h.2 c1).1 c2).2.1, ((h.2 c1).1 c2).2.2⟩⟩, fun c2 => ((h.2 c1).2 c2)⟩⟩⟩)
theorem p_263_s41 {t : Int} {d : Nat} {a1 : Int} {v : Mem} {Q : Int → Mem → Prop} (h : (0 ≤ a1 ∧ a1 < 4) ∧ Q (List.getD (sB.getD 41 []) (Int.toNat a1) 0) v) : RR t (d + 3) 263 [(2, (-43)), (0, a1)] v Q := by
  have e := chrE 41 (Int.toNat a1)
  have e2 := chr_r 41 (Int.toNat a1)
  refine s_263_s41 ?_
  simp only [e]
  exact ⟨fun c => absurd h.1.1 (by omega), fun c => ⟨fun c2 => ⟨⟨e2.1, by omega⟩, ⟨e2.1, by omega⟩, h.2⟩, fun c2 => absurd h.1.2 c2⟩⟩
set_option maxRecDepth 100000 in
theorem w_266_s42 {t : Int} {d : Nat} {v : Mem} {Q : Int → Mem → Prop} (h : (((1 : Int) = 0 → ((-128 ≤ (1 : Int) ∧ (1 : Int) < 128) ∧ Q 1 v)) ∧ (¬ (1 : Int) = 0 → ((-128 ≤ (0 : Int) ∧ (0 : Int) < 128) ∧ Q 0 v)))) : RR t d 266 [(2, (-44))] v Q := wp_sound (K := k_266) (cut := []) (f := 10) (cb := false) rfl h
set_option maxRecDepth 100000 in
theorem s_266_s42 {t : Int} {d : Nat} {v : Mem} {Q : Int → Mem → Prop} (h : Q 0 v) : RR t d 266 [(2, (-44))] v Q := w_266_s42 ⟨fun c => absurd c (by decide), fun _ => ⟨⟨by decide, by decide⟩, h⟩⟩
set_option maxRecDepth 100000 in
theorem w_262_s42 {t : Int} {d : Nat} {v : Mem} {Q : Int → Mem → Prop} (h : (RR t d 266 [(2, (-44))] v (fun x1 v1 => Q (ishr 1 x1) v1))) : RR t (d + 1) 262 [(2, (-44))] v Q := wp_sound (K := k_262) (cut := []) (f := 10) (cb := false) rfl h
set_option maxRecDepth 100000 in
theorem s_262_s42 {t : Int} {d : Nat} {v : Mem} {Q : Int → Mem → Prop} (h : Q 1 v) : RR t (d + 1) 262 [(2, (-44))] v Q := w_262_s42 (s_266_s42 h)
set_option maxRecDepth 100000 in
theorem w_267_s42 {t : Int} {d : Nat} {v : Mem} {Q : Int → Mem → Prop} (h : (((1 : Int) = 0 → (((0 : Int) = 0 ∨ (0 : Int) = 1) ∧ Q 0 v)) ∧ (¬ (1 : Int) = 0 → (((0 : Int) = 0 → (((1 : Int) = 0 ∨ (1 : Int) = 1) ∧ Q 1 v)) ∧ (¬ (0 : Int) = 0 → (((0 : Int) = 0 ∨ (0 : Int) = 1) ∧ Q 0 v)))))) : RR t d 267 [(2, (-44))] v Q := wp_sound (K := k_267) (cut := []) (f := 12) (cb := false) rfl h
set_option maxRecDepth 100000 in
theorem s_267_s42 {t : Int} {d : Nat} {v : Mem} {Q : Int → Mem → Prop} (h : Q 1 v) : RR t d 267 [(2, (-44))] v Q := w_267_s42 ⟨fun c => absurd c (by decide), fun _ => ⟨fun _ => ⟨Or.inr rfl, h⟩, fun c => absurd (by decide) c⟩⟩
set_option maxRecDepth 100000 in
theorem w_269_s86 {t : Int} {d : Nat} {a1 : Int} {v : Mem} {Q : Int → Mem → Prop} (h : (RR t d 268 [(0, a1), (0, 1)] v (fun x1 v1 => ((0 ≤ a1 ∧ a1 < 1) ∧ ((0 ≤ (w16u (iand (List.getD (sB.getD 42 []) (Int.toNat a1) 0) 255)) ∧ (w16u (iand (List.getD (sB.getD 42 []) (Int.toNat a1) 0) 255)) < 65536) ∧ Q (w16u (iand (List.getD (sB.getD 42 []) (Int.toNat a1) 0) 255)) v1))))) : RR t (d + 1) 269 [(2, (-88)), (0, a1)] v Q := wp_sound (K := k_269) (cut := []) (f := 14) (cb := false) rfl h
set_option maxRecDepth 100000 in
theorem s_269_s86 {t : Int} {d : Nat} {a1 : Int} {v : Mem} {Q : Int → Mem → Prop} (h : ((a1 < 0 → False) ∧ (¬ a1 < 0 → ((a1 < 1 → ((0 ≤ (w16u (iand (List.getD (sB.getD 42 []) (Int.toNat a1) 0) 255)) ∧ (w16u (iand (List.getD (sB.getD 42 []) (Int.toNat a1) 0) 255)) < 65536) ∧ Q (w16u (iand (List.getD (sB.getD 42 []) (Int.toNat a1) 0) 255)) v)) ∧ (¬ a1 < 1 → False))))) : RR t (d + 2) 269 [(2, (-88)), (0, a1)] v Q := w_269_s86 (s_268 ⟨fun c1 => (h.1 c1), fun c1 => ⟨fun c2 => ⟨⟨by omega, by omega⟩, ⟨((h.2 c1).1 c2).1, ((h.2 c1).1 c2).2⟩⟩, fun c2 => ((h.2 c1).2 c2)⟩⟩)
set_option maxRecDepth 100000 in
theorem w_263_s42 {t : Int} {d : Nat} {a1 : Int} {v : Mem} {Q : Int → Mem → Prop} (h : (RR t d 267 [(2, (-44))] v (fun x1 v1 => ((x1 = 0 → False) ∧ (¬ x1 = 0 → (RR t d 269 [(2, (-88)), (0, a1)] v1 (fun x2 v2 => ((0 ≤ x2 ∧ x2 < 65536) ∧ Q x2 v2)))))))) : RR t (d + 1) 263 [(2, (-44)), (0, a1)] v Q := wp_sound (K := k_263) (cut := []) (f := 16) (cb := false) rfl h
set_option maxRecDepth 100000 in
theorem s_263_s42 {t : Int} {d : Nat} {a1 : Int} {v : Mem} {Q : Int → Mem → Prop} (h : ((a1 < 0 → False) ∧ (¬ a1 < 0 → ((a1 < 1 → ((0 ≤ (w16u (iand (List.getD (sB.getD 42 []) (Int.toNat a1) 0) 255)) ∧ (w16u (iand (List.getD (sB.getD 42 []) (Int.toNat a1) 0) 255)) < 65536) ∧ ((0 ≤ (w16u (iand (List.getD (sB.getD 42 []) (Int.toNat a1) 0) 255)) ∧ (w16u (iand (List.getD (sB.getD 42 []) (Int.toNat a1) 0) 255)) < 65536) ∧ Q (w16u (iand (List.getD (sB.getD 42 []) (Int.toNat a1) 0) 255)) v))) ∧ (¬ a1 < 1 → False))))) : RR t (d + 3) 263 [(2, (-44)), (0, a1)] v Q := w_263_s42 (s_267_s42 ⟨fun c => absurd c (by decide), fun _ => s_269_s86 ⟨fun c1 => (h.1 c1), fun c1 => ⟨fun c2 => ⟨((h.2 c1).1 c2).1, ⟨((h.2 c1).1 c2).2.1, ((h.2 c1).1 c2).2.2⟩⟩, fun c2 => ((h.2 c1).2 c2)⟩⟩⟩)
theorem p_263_s42 {t : Int} {d : Nat} {a1 : Int} {v : Mem} {Q : Int → Mem → Prop} (h : (0 ≤ a1 ∧ a1 < 1) ∧ Q (List.getD (sB.getD 42 []) (Int.toNat a1) 0) v) : RR t (d + 3) 263 [(2, (-44)), (0, a1)] v Q := by
  have e := chrE 42 (Int.toNat a1)
  have e2 := chr_r 42 (Int.toNat a1)
  refine s_263_s42 ?_
  simp only [e]
  exact ⟨fun c => absurd h.1.1 (by omega), fun c => ⟨fun c2 => ⟨⟨e2.1, by omega⟩, ⟨e2.1, by omega⟩, h.2⟩, fun c2 => absurd h.1.2 c2⟩⟩
set_option maxRecDepth 100000 in
theorem w_1 {t : Int} {d : Nat} {a2 : Int} {v : Mem} {Q : Int → Mem → Prop} (h : ((a2 < 0 → Q 0 v) ∧ (¬ a2 < 0 → ((3200 < a2 → Q 0 v) ∧ (¬ 3200 < a2 → ((3000 < a2 → Q 0 v) ∧ (¬ 3000 < a2 → ((0 ≤ a2 ∧ 0 ≤ (0 : Int) ∧ 0 ≤ (0 : Int) ∧ (0 : Int) + a2 ≤ 3200 ∧ (0 : Int) + a2 ≤ 9011) ∧ Q 0 (cpV v 12 0 14 0 (Int.toNat a2)))))))))) : RR t d 1 [(2, 13), (2, 12), (0, a2)] v Q := wp_sound (K := k_1) (cut := []) (f := 22) (cb := false) rfl h
set_option maxRecDepth 100000 in
theorem w_2 {t : Int} {d : Nat} {a1 : Int} {v : Mem} {Q : Int → Mem → Prop} (h : ((a1 < 0 → Q 0 v) ∧ (¬ a1 < 0 → ((a1 < 9011 → ((0 ≤ a1 ∧ a1 < 9011) ∧ Q (iand (v 14 (Int.toNat a1)) 255) v)) ∧ (¬ a1 < 9011 → Q 0 v))))) : RR t d 2 [(2, 13), (0, a1)] v Q := wp_sound (K := k_2) (cut := []) (f := 19) (cb := false) rfl h
set_option maxRecDepth 100000 in
theorem s_2 {t : Int} {d : Nat} {a1 : Int} {v : Mem} {Q : Int → Mem → Prop} (h : ((a1 < 0 → Q 0 v) ∧ (¬ a1 < 0 → ((a1 < 9011 → Q (iand (v 14 (Int.toNat a1)) 255) v) ∧ (¬ a1 < 9011 → Q 0 v))))) : RR t d 2 [(2, 13), (0, a1)] v Q := w_2 ⟨fun c1 => (h.1 c1), fun c1 => ⟨fun c2 => ⟨⟨by omega, by omega⟩, ((h.2 c1).1 c2)⟩, fun c2 => ((h.2 c1).2 c2)⟩⟩
def f_2 (a1 : Int) (v : Mem) : Int := if a1 < 0 then 0 else if a1 < 9011 then (iand (v 14 (Int.toNat a1)) 255) else 0
set_option maxRecDepth 100000 in
theorem p_2 {t : Int} {d : Nat} {a1 : Int} {v : Mem} {Q : Int → Mem → Prop} (h : Q (f_2 a1 v) v) : RR t d 2 [(2, 13), (0, a1)] v Q := s_2 ⟨fun c0 => (by unfold f_2 at h; rw [if_pos c0] at h; exact h), fun c0 => ⟨fun c1 => (by unfold f_2 at h; rw [if_neg c0, if_pos c1] at h; exact h), fun c1 => (by unfold f_2 at h; rw [if_neg c0, if_neg c1] at h; exact h)⟩⟩
set_option maxRecDepth 100000 in
theorem w_3 {t : Int} {d : Nat} {a1 a2 : Int} {v : Mem} {Q : Int → Mem → Prop} (h : ((a1 < 0 → Q 0 v) ∧ (¬ a1 < 0 → ((a1 < 9011 → ((0 ≤ a1 ∧ a1 < 9011) ∧ Q 0 (up v 14 (Int.toNat a1) (w8 (w8 a2))))) ∧ (¬ a1 < 9011 → Q 0 v))))) : RR t d 3 [(2, 13), (0, a1), (0, a2)] v Q := wp_sound (K := k_3) (cut := []) (f := 17) (cb := false) rfl h
set_option maxRecDepth 100000 in
theorem s_3 {t : Int} {d : Nat} {a1 a2 : Int} {v : Mem} {Q : Int → Mem → Prop} (h : ((a1 < 0 → Q 0 v) ∧ (¬ a1 < 0 → ((a1 < 9011 → Q 0 (up v 14 (Int.toNat a1) (w8 (w8 a2)))) ∧ (¬ a1 < 9011 → Q 0 v))))) : RR t d 3 [(2, 13), (0, a1), (0, a2)] v Q := w_3 ⟨fun c1 => (h.1 c1), fun c1 => ⟨fun c2 => ⟨⟨by omega, by omega⟩, ((h.2 c1).1 c2)⟩, fun c2 => ((h.2 c1).2 c2)⟩⟩
def m_3 (a1 : Int) (a2 : Int) (v : Mem) : Mem := if a1 < 0 then v else if a1 < 9011 then (up v 14 (Int.toNat a1) (w8 (w8 a2))) else v
set_option maxRecDepth 100000 in
theorem p_3 {t : Int} {d : Nat} {a1 a2 : Int} {v : Mem} {Q : Int → Mem → Prop} (h : Q 0 (m_3 a1 a2 v)) : RR t d 3 [(2, 13), (0, a1), (0, a2)] v Q := s_3 ⟨fun c0 => (by unfold m_3 at h; rw [if_pos c0] at h; exact h), fun c0 => ⟨fun c1 => (by unfold m_3 at h; rw [if_neg c0, if_pos c1] at h; exact h), fun c1 => (by unfold m_3 at h; rw [if_neg c0, if_neg c1] at h; exact h)⟩⟩
set_option maxRecDepth 100000 in
theorem w_6 {t : Int} {d : Nat} {a1 a2 : Int} {v : Mem} {Q : Int → Mem → Prop} (h : ((a1 < 0 → (((0 : Int) = 0 ∨ (0 : Int) = 1) ∧ Q 0 v)) ∧ (¬ a1 < 0 → ((a2 < 0 → (((0 : Int) = 0 ∨ (0 : Int) = 1) ∧ Q 0 v)) ∧ (¬ a2 < 0 → ((9011 < a2 → (((0 : Int) = 0 ∨ (0 : Int) = 1) ∧ Q 0 v)) ∧ (¬ 9011 < a2 → (((w32 (9011 - a2)) < a1 → (((0 : Int) = 0 ∨ (0 : Int) = 1) ∧ Q 0 v)) ∧ (¬ (w32 (9011 - a2)) < a1 → (((1 : Int) = 0 ∨ (1 : Int) = 1) ∧ Q 1 v)))))))))) : RR t d 6 [(2, 13), (0, a1), (0, a2)] v Q := wp_sound (K := k_6) (cut := []) (f := 23) (cb := false) rfl h
set_option maxRecDepth 100000 in
theorem s_6 {t : Int} {d : Nat} {a1 a2 : Int} {v : Mem} {Q : Int → Mem → Prop} (h : ((a1 < 0 → Q 0 v) ∧ (¬ a1 < 0 → ((a2 < 0 → Q 0 v) ∧ (¬ a2 < 0 → ((9011 < a2 → Q 0 v) ∧ (¬ 9011 < a2 → (((w32 (9011 - a2)) < a1 → Q 0 v) ∧ (¬ (w32 (9011 - a2)) < a1 → Q 1 v))))))))) : RR t d 6 [(2, 13), (0, a1), (0, a2)] v Q := w_6 ⟨fun c1 => ⟨Or.inl rfl, (h.1 c1)⟩, fun c1 => ⟨fun c2 => ⟨Or.inl rfl, ((h.2 c1).1 c2)⟩, fun c2 => ⟨fun c3 => ⟨Or.inl rfl, (((h.2 c1).2 c2).1 c3)⟩, fun c3 => ⟨fun c4 => ⟨Or.inl rfl, ((((h.2 c1).2 c2).2 c3).1 c4)⟩, fun c4 => ⟨Or.inr rfl, ((((h.2 c1).2 c2).2 c3).2 c4)⟩⟩⟩⟩⟩
def f_6 (a1 : Int) (a2 : Int) (v : Mem) : Int := if a1 < 0 then 0 else if a2 < 0 then 0 else if 9011 < a2 then 0 else if (w32 (9011 - a2)) < a1 then 0 else 1
set_option maxRecDepth 100000 in
theorem p_6 {t : Int} {d : Nat} {a1 a2 : Int} {v : Mem} {Q : Int → Mem → Prop} (h : Q (f_6 a1 a2 v) v) : RR t d 6 [(2, 13), (0, a1), (0, a2)] v Q := s_6 ⟨fun c0 => (by unfold f_6 at h; rw [if_pos c0] at h; exact h), fun c0 => ⟨fun c1 => (by unfold f_6 at h; rw [if_neg c0, if_pos c1] at h; exact h), fun c1 => ⟨fun c2 => (by unfold f_6 at h; rw [if_neg c0, if_neg c1, if_pos c2] at h; exact h), fun c2 => ⟨fun c3 => (by unfold f_6 at h; rw [if_neg c0, if_neg c1, if_neg c2, if_pos c3] at h; exact h), fun c3 => (by unfold f_6 at h; rw [if_neg c0, if_neg c1, if_neg c2, if_neg c3] at h; exact h)⟩⟩⟩⟩
set_option maxRecDepth 100000 in
theorem w_4 {t : Int} {d : Nat} {a1 a2 a3 : Int} {v : Mem} {Q : Int → Mem → Prop} (h : (RR t d 6 [(2, 13), (0, a1), (0, a3)] v (fun x1 v1 => ((x1 = 0 → Q 0 v1) ∧ (¬ x1 = 0 → (RR t d 6 [(2, 13), (0, a2), (0, a3)] v1 (fun x2 v2 => ((x2 = 0 → Q 0 v2) ∧ (¬ x2 = 0 → ((0 ≤ a3 ∧ 0 ≤ a1 ∧ 0 ≤ a2 ∧ a1 + a3 ≤ 9011 ∧ a2 + a3 ≤ 9011) ∧ Q 0 (cpV v2 14 (Int.toNat a1) 14 (Int.toNat a2) (Int.toNat a3)))))))))))) : RR t (d + 1) 4 [(2, 13), (0, a1), (0, a2), (0, a3)] v Q := wp_sound (K := k_4) (cut := []) (f := 22) (cb := false) rfl h
set_option maxRecDepth 100000 in
theorem s_4 {t : Int} {d : Nat} {a1 a2 a3 : Int} {v : Mem} {Q : Int → Mem → Prop} (h : (((f_6 a1 a3 v) = 0 → Q 0 v) ∧ (¬ (f_6 a1 a3 v) = 0 → (((f_6 a2 a3 v) = 0 → Q 0 v) ∧ (¬ (f_6 a2 a3 v) = 0 → ((0 ≤ a3 ∧ 0 ≤ a1 ∧ 0 ≤ a2 ∧ a1 + a3 ≤ 9011 ∧ a2 + a3 ≤ 9011) ∧ Q 0 (cpV v 14 (Int.toNat a1) 14 (Int.toNat a2) (Int.toNat a3)))))))) : RR t (d + 1) 4 [(2, 13), (0, a1), (0, a2), (0, a3)] v Q := w_4 (p_6 ⟨fun c1 => (h.1 c1), fun c1 => p_6 ⟨fun c2 => ((h.2 c1).1 c2), fun c2 => ⟨((h.2 c1).2 c2).1, ((h.2 c1).2 c2).2⟩⟩⟩)
set_option maxRecDepth 100000 in
theorem w_5 {t : Int} {d : Nat} {a1 a2 a3 : Int} {v : Mem} {Q : Int → Mem → Prop} (h : (RR t d 6 [(2, 13), (0, a1), (0, a3)] v (fun x1 v1 => ((x1 = 0 → Q 0 v1) ∧ (¬ x1 = 0 → (RR t d 6 [(2, 13), (0, a2), (0, a3)] v1 (fun x2 v2 => ((x2 = 0 → Q 0 v2) ∧ (¬ x2 = 0 → LL t (d + 1) 5 23 [(2, 13), (0, a1), (0, a2), (0, a3), (0, 0)] [] v2 Q))))))))) : RR t (d + 1) 5 [(2, 13), (0, a1), (0, a2), (0, a3)] v Q := wp_sound (K := k_5) (cut := [(23, [])]) (f := 39) (cb := false) rfl h
set_option maxRecDepth 100000 in
theorem s_5 {t : Int} {d : Nat} {a1 a2 a3 : Int} {v : Mem} {Q : Int → Mem → Prop} (h : (((f_6 a1 a3 v) = 0 → Q 0 v) ∧ (¬ (f_6 a1 a3 v) = 0 → (((f_6 a2 a3 v) = 0 → Q 0 v) ∧ (¬ (f_6 a2 a3 v) = 0 → LL t (d + 1) 5 23 [(2, 13), (0, a1), (0, a2), (0, a3), (0, 0)] [] v Q))))) : RR t (d + 1) 5 [(2, 13), (0, a1), (0, a2), (0, a3)] v Q := w_5 (p_6 ⟨fun c1 => (h.1 c1), fun c1 => p_6 ⟨fun c2 => ((h.2 c1).1 c2), fun c2 => ((h.2 c1).2 c2)⟩⟩)
set_option maxRecDepth 100000 in
theorem w_5_23 {t : Int} {d : Nat} {l1 l2 l3 l4 : Int} {v : Mem} {Q : Int → Mem → Prop} (h : ((l4 < l3 → ((0 ≤ (w32 (l1 + l4)) ∧ (w32 (l1 + l4)) < 9011) ∧ ((0 ≤ (w32 (l2 + l4)) ∧ (w32 (l2 + l4)) < 9011) ∧ (((v 14 (Int.toNat (w32 (l1 + l4)))) = (v 14 (Int.toNat (w32 (l2 + l4)))) → LL t d 5 23 [(2, 13), (0, l1), (0, l2), (0, l3), (0, (w32 (l4 + 1)))] [] v Q) ∧ (¬ (v 14 (Int.toNat (w32 (l1 + l4)))) = (v 14 (Int.toNat (w32 (l2 + l4)))) → Q l4 v))))) ∧ (¬ l4 < l3 → Q l3 v))) : LL t d 5 23 [(2, 13), (0, l1), (0, l2), (0, l3), (0, l4)] [] v Q := wp_sound (K := k_5) (cut := [(23, [])]) (f := 39) (cb := false) rfl h
set_option maxRecDepth 100000 in
theorem w_7 {t : Int} {d : Nat} {a1 : Int} {v : Mem} {Q : Int → Mem → Prop} (h : (RR t d 274 [(1, a1)] v (fun x1 v1 => ((10 : Int) ≠ 0 ∧ (RR t d 3 [(2, 13), (0, 7010), (0, (w32 (48 + (w32 (Int.tmod x1 10)))))] v1 (fun x2 v2 => ((10 : Int) ≠ 0 ∧ LL t (d + 1) 7 35 [(2, 13), (0, a1), (1, (w64 (Int.tdiv x1 10))), (3, 0), (0, 7010), (0, 0)] [] v2 Q))))))) : RR t (d + 1) 7 [(2, 13), (0, a1)] v Q := wp_sound (K := k_7) (cut := [(35, [3])]) (f := 56) (cb := false) rfl h
set_option maxRecDepth 100000 in
theorem s_7 {t : Int} {d : Nat} {a1 : Int} {v : Mem} {Q : Int → Mem → Prop} (h : LL t (d + 1) 7 35 [(2, 13), (0, a1), (1, (w64 (Int.tdiv (f_274 a1 v) 10))), (3, 0), (0, 7010), (0, 0)] [] (m_3 7010 (w32 (48 + (w32 (Int.tmod (f_274 a1 v) 10)))) v) Q) : RR t (d + 1) 7 [(2, 13), (0, a1)] v Q := w_7 (p_274 ⟨by decide, p_3 ⟨by decide, h⟩⟩)
set_option maxRecDepth 100000 in
theorem w_7_35 {t : Int} {d : Nat} {l1 l2 l4 l5 : Int} {v : Mem} {Q : Int → Mem → Prop} (h : ((l5 < 11 → ((0 < (lcm3 l2 0) → ((10 : Int) ≠ 0 ∧ (RR t d 3 [(2, 13), (0, (w32 (l4 + (-1)))), (0, (w32 (48 + (w32 (Int.tmod l2 10)))))] v (fun x3 v3 => ((10 : Int) ≠ 0 ∧ LL t (d + 1) 7 35 [(2, 13), (0, l1), (1, (w64 (Int.tdiv l2 10))), (3, 0), (0, (w32 (l4 + (-1)))), (0, (w32 (l5 + 1)))] [] v3 Q))))) ∧ (¬ 0 < (lcm3 l2 0) → ((l1 < 0 → (RR t d 3 [(2, 13), (0, (w32 (l4 + (-1)))), (0, 45)] v (fun x2 v2 => Q (w32 (l4 + (-1))) v2))) ∧ (¬ l1 < 0 → Q l4 v))))) ∧ (¬ l5 < 11 → ((l1 < 0 → (RR t d 3 [(2, 13), (0, (w32 (l4 + (-1)))), (0, 45)] v (fun x1 v1 => Q (w32 (l4 + (-1))) v1))) ∧ (¬ l1 < 0 → Q l4 v))))) : LL t (d + 1) 7 35 [(2, 13), (0, l1), (1, l2), (3, 0), (0, l4), (0, l5)] [] v Q := wp_sound (K := k_7) (cut := [(35, [3])]) (f := 56) (cb := false) rfl h
set_option maxRecDepth 100000 in
theorem s_7_35 {t : Int} {d : Nat} {l1 l2 l4 l5 : Int} {v : Mem} {Q : Int → Mem → Prop} (h : ((l5 < 11 → ((0 < (lcm3 l2 0) → LL t (d + 1) 7 35 [(2, 13), (0, l1), (1, (w64 (Int.tdiv l2 10))), (3, 0), (0, (w32 (l4 + (-1)))), (0, (w32 (l5 + 1)))] [] (m_3 (w32 (l4 + (-1))) (w32 (48 + (w32 (Int.tmod l2 10)))) v) Q) ∧ (¬ 0 < (lcm3 l2 0) → ((l1 < 0 → Q (w32 (l4 + (-1))) (m_3 (w32 (l4 + (-1))) 45 v)) ∧ (¬ l1 < 0 → Q l4 v))))) ∧ (¬ l5 < 11 → ((l1 < 0 → Q (w32 (l4 + (-1))) (m_3 (w32 (l4 + (-1))) 45 v)) ∧ (¬ l1 < 0 → Q l4 v))))) : LL t (d + 1) 7 35 [(2, 13), (0, l1), (1, l2), (3, 0), (0, l4), (0, l5)] [] v Q := w_7_35 ⟨fun c1 => ⟨fun c2 => ⟨by decide, p_3 ⟨by decide, ((h.1 c1).1 c2)⟩⟩, fun c2 => ⟨fun c3 => p_3 (((h.1 c1).2 c2).1 c3), fun c3 => (((h.1 c1).2 c2).2 c3)⟩⟩, fun c1 => ⟨fun c4 => p_3 ((h.2 c1).1 c4), fun c4 => ((h.2 c1).2 c4)⟩⟩
set_option maxRecDepth 100000 in
theorem w_9 {t : Int} {d : Nat} {a1 : Int} {v : Mem} {Q : Int → Mem → Prop} (h : ((a1 = 0 ∨ a1 = 1) ∧ Q 0 (up (up v 8 3 0) 8 4 a1))) : RR t d 9 [(2, 8), (0, a1)] v Q := wp_sound (K := k_9) (cut := []) (f := 10) (cb := false) rfl h
set_option maxRecDepth 100000 in
theorem w_10 {t : Int} {d : Nat} {a1 a2 a3 : Int} {v : Mem} {Q : Int → Mem → Prop} (h : (((v 8 4) = 0 → Q (-1) v) ∧ (¬ (v 8 4) = 0 → (((v 8 3) < 0 → Q (-1) v) ∧ (¬ (v 8 3) < 0 → (((v 8 3) < 3100 → ((0 ≤ (v 8 3) ∧ (v 8 3) < 3100) ∧ ((0 ≤ (v 8 3) ∧ (v 8 3) < 3100) ∧ ((0 ≤ (v 8 3) ∧ (v 8 3) < 3100) ∧ Q (w32 ((w32 ((v 8 3) + 1)) - 1)) (up (up (up (up v 9 (Int.toNat (v 8 3)) (w8 (w8 a1))) 10 (Int.toNat (v 8 3)) a2) 11 (Int.toNat (v 8 3)) a3) 8 3 (w32 ((v 8 3) + 1))))))) ∧ (¬ (v 8 3) < 3100 → Q (-1) v))))))) : RR t d 10 [(2, 8), (0, a1), (0, a2), (0, a3)] v Q := wp_sound (K := k_10) (cut := []) (f := 45) (cb := false) rfl h
set_option maxRecDepth 100000 in
theorem s_10 {t : Int} {d : Nat} {a1 a2 a3 : Int} {v : Mem} {Q : Int → Mem → Prop} (h : (((v 8 4) = 0 → Q (-1) v) ∧ (¬ (v 8 4) = 0 → (((v 8 3) < 0 → Q (-1) v) ∧ (¬ (v 8 3) < 0 → (((v 8 3) < 3100 → Q (w32 ((w32 ((v 8 3) + 1)) - 1)) (up (up (up (up v 9 (Int.toNat (v 8 3)) (w8 (w8 a1))) 10 (Int.toNat (v 8 3)) a2) 11 (Int.toNat (v 8 3)) a3) 8 3 (w32 ((v 8 3) + 1)))) ∧ (¬ (v 8 3) < 3100 → Q (-1) v))))))) : RR t d 10 [(2, 8), (0, a1), (0, a2), (0, a3)] v Q := w_10 ⟨fun c1 => (h.1 c1), fun c1 => ⟨fun c2 => ((h.2 c1).1 c2), fun c2 => ⟨fun c3 => ⟨⟨by omega, by omega⟩, ⟨⟨by omega, by omega⟩, ⟨⟨by omega, by omega⟩, (((h.2 c1).2 c2).1 c3)⟩⟩⟩, fun c3 => (((h.2 c1).2 c2).2 c3)⟩⟩⟩
def f_10 (a1 : Int) (a2 : Int) (a3 : Int) (v : Mem) : Int := if (v 8 4) = 0 then (-1) else if (v 8 3) < 0 then (-1) else if (v 8 3) < 3100 then (w32 ((w32 ((v 8 3) + 1)) - 1)) else (-1)
def m_10 (a1 : Int) (a2 : Int) (a3 : Int) (v : Mem) : Mem := if (v 8 4) = 0 then v else if (v 8 3) < 0 then v else if (v 8 3) < 3100 then (up (up (up (up v 9 (Int.toNat (v 8 3)) (w8 (w8 a1))) 10 (Int.toNat (v 8 3)) a2) 11 (Int.toNat (v 8 3)) a3) 8 3 (w32 ((v 8 3) + 1))) else v
set_option maxRecDepth 100000 in
theorem p_10 {t : Int} {d : Nat} {a1 a2 a3 : Int} {v : Mem} {Q : Int → Mem → Prop} (h : Q (f_10 a1 a2 a3 v) (m_10 a1 a2 a3 v)) : RR t d 10 [(2, 8), (0, a1), (0, a2), (0, a3)] v Q := s_10 ⟨fun c0 => (by unfold f_10 at h; unfold m_10 at h; rw [if_pos c0,if_pos c0] at h; exact h), fun c0 => ⟨fun c1 => (by unfold f_10 at h; unfold m_10 at h; rw [if_neg c0,if_neg c0, if_pos c1,if_pos c1] at h; exact h), fun c1 => ⟨fun c2 => (by unfold f_10 at h; unfold m_10 at h; rw [if_neg c0,if_neg c0, if_neg c1,if_neg c1, if_pos c2,if_pos c2] at h; exact h), fun c2 => (by unfold f_10 at h; unfold m_10 at h; rw [if_neg c0,if_neg c0, if_neg c1,if_neg c1, if_neg c2,if_neg c2] at h; exact h)⟩⟩⟩
set_option maxRecDepth 100000 in
theorem w_11 {t : Int} {d : Nat} {a1 : Int} {v : Mem} {Q : Int → Mem → Prop} (h : ((a1 < 0 → Q 0 v) ∧ (¬ a1 < 0 → ((a1 < (v 8 3) → ((0 ≤ a1 ∧ a1 < 3100) ∧ Q 0 (up v 10 (Int.toNat a1) (v 8 3)))) ∧ (¬ a1 < (v 8 3) → Q 0 v))))) : RR t d 11 [(2, 8), (0, a1)] v Q := wp_sound (K := k_11) (cut := []) (f := 16) (cb := false) rfl h
set_option maxRecDepth 100000 in
theorem w_12 {t : Int} {d : Nat} {v : Mem} {Q : Int → Mem → Prop} (h : Q (v 8 3) v) : RR t d 12 [(2, 8)] v Q := wp_sound (K := k_12) (cut := []) (f := 6) (cb := false) rfl h
set_option maxRecDepth 100000 in
theorem w_16 {t : Int} {d : Nat} {a1 : Int} {v : Mem} {Q : Int → Mem → Prop} (h : ((a1 < 0 → (((0 : Int) = 0 ∨ (0 : Int) = 1) ∧ Q 0 v)) ∧ (¬ a1 < 0 → ((a1 < (v 8 3) → ((a1 < 3100 → (((1 : Int) = 0 ∨ (1 : Int) = 1) ∧ Q 1 v)) ∧ (¬ a1 < 3100 → (((0 : Int) = 0 ∨ (0 : Int) = 1) ∧ Q 0 v)))) ∧ (¬ a1 < (v 8 3) → (((0 : Int) = 0 ∨ (0 : Int) = 1) ∧ Q 0 v)))))) : RR t d 16 [(2, 8), (0, a1)] v Q := wp_sound (K := k_16) (cut := []) (f := 16) (cb := false) rfl h
set_option maxRecDepth 100000 in
theorem s_16 {t : Int} {d : Nat} {a1 : Int} {v : Mem} {Q : Int → Mem → Prop} (h : ((a1 < 0 → Q 0 v) ∧ (¬ a1 < 0 → ((a1 < (v 8 3) → ((a1 < 3100 → Q 1 v) ∧ (¬ a1 < 3100 → Q 0 v))) ∧ (¬ a1 < (v 8 3) → Q 0 v))))) : RR t d 16 [(2, 8), (0, a1)] v Q := w_16 ⟨fun c1 => ⟨Or.inl rfl, (h.1 c1)⟩, fun c1 => ⟨fun c2 => ⟨fun c3 => ⟨Or.inr rfl, (((h.2 c1).1 c2).1 c3)⟩, fun c3 => ⟨Or.inl rfl, (((h.2 c1).1 c2).2 c3)⟩⟩, fun c2 => ⟨Or.inl rfl, ((h.2 c1).2 c2)⟩⟩⟩
set_option maxRecDepth 100000 in
theorem w_13 {t : Int} {d : Nat} {a1 : Int} {v : Mem} {Q : Int → Mem → Prop} (h : (RR t d 16 [(2, 8), (0, a1)] v (fun x1 v1 => ((x1 = 0 → Q 6 v1) ∧ (¬ x1 = 0 → ((0 ≤ a1 ∧ a1 < 3100) ∧ Q (v1 9 (Int.toNat a1)) v1)))))) : RR t (d + 1) 13 [(2, 8), (0, a1)] v Q := wp_sound (K := k_13) (cut := []) (f := 14) (cb := false) rfl h
set_option maxRecDepth 100000 in
theorem s_13 {t : Int} {d : Nat} {a1 : Int} {v : Mem} {Q : Int → Mem → Prop} (h : ((a1 < 0 → Q 6 v) ∧ (¬ a1 < 0 → ((a1 < (v 8 3) → ((a1 < 3100 → Q (v 9 (Int.toNat a1)) v) ∧ (¬ a1 < 3100 → Q 6 v))) ∧ (¬ a1 < (v 8 3) → Q 6 v))))) : RR t (d + 1) 13 [(2, 8), (0, a1)] v Q := w_13 (s_16 ⟨fun c1 => ⟨fun _ => (h.1 c1), fun c => absurd (by decide) c⟩, fun c1 => ⟨fun c2 => ⟨fun c3 => ⟨fun c => absurd c (by decide), fun _ => ⟨⟨by omega, by omega⟩, (((h.2 c1).1 c2).1 c3)⟩⟩, fun c3 => ⟨fun _ => (((h.2 c1).1 c2).2 c3), fun c => absurd (by decide) c⟩⟩, fun c2 => ⟨fun _ => ((h.2 c1).2 c2), fun c => absurd (by decide) c⟩⟩⟩)
def f_13 (a1 : Int) (v : Mem) : Int := if a1 < 0 then 6 else if a1 < (v 8 3) then if a1 < 3100 then (v 9 (Int.toNat a1)) else 6 else 6
set_option maxRecDepth 100000 in
theorem p_13 {t : Int} {d : Nat} {a1 : Int} {v : Mem} {Q : Int → Mem → Prop} (h : Q (f_13 a1 v) v) : RR t (d + 1) 13 [(2, 8), (0, a1)] v Q := s_13 ⟨fun c0 => (by unfold f_13 at h; rw [if_pos c0] at h; exact h), fun c0 => ⟨fun c1 => ⟨fun c2 => (by unfold f_13 at h; rw [if_neg c0, if_pos c1, if_pos c2] at h; exact h), fun c2 => (by unfold f_13 at h; rw [if_neg c0, if_pos c1, if_neg c2] at h; exact h)⟩, fun c1 => (by unfold f_13 at h; rw [if_neg c0, if_neg c1] at h; exact h)⟩⟩
set_option maxRecDepth 100000 in
theorem w_14 {t : Int} {d : Nat} {a1 : Int} {v : Mem} {Q : Int → Mem → Prop} (h : (RR t d 16 [(2, 8), (0, a1)] v (fun x1 v1 => ((x1 = 0 → Q 0 v1) ∧ (¬ x1 = 0 → ((0 ≤ a1 ∧ a1 < 3100) ∧ Q (v1 10 (Int.toNat a1)) v1)))))) : RR t (d + 1) 14 [(2, 8), (0, a1)] v Q := wp_sound (K := k_14) (cut := []) (f := 14) (cb := false) rfl h
set_option maxRecDepth 100000 in
theorem s_14 {t : Int} {d : Nat} {a1 : Int} {v : Mem} {Q : Int → Mem → Prop} (h : ((a1 < 0 → Q 0 v) ∧ (¬ a1 < 0 → ((a1 < (v 8 3) → ((a1 < 3100 → Q (v 10 (Int.toNat a1)) v) ∧ (¬ a1 < 3100 → Q 0 v))) ∧ (¬ a1 < (v 8 3) → Q 0 v))))) : RR t (d + 1) 14 [(2, 8), (0, a1)] v Q := w_14 (s_16 ⟨fun c1 => ⟨fun _ => (h.1 c1), fun c => absurd (by decide) c⟩, fun c1 => ⟨fun c2 => ⟨fun c3 => ⟨fun c => absurd c (by decide), fun _ => ⟨⟨by omega, by omega⟩, (((h.2 c1).1 c2).1 c3)⟩⟩, fun c3 => ⟨fun _ => (((h.2 c1).1 c2).2 c3), fun c => absurd (by decide) c⟩⟩, fun c2 => ⟨fun _ => ((h.2 c1).2 c2), fun c => absurd (by decide) c⟩⟩⟩)
def f_14 (a1 : Int) (v : Mem) : Int := if a1 < 0 then 0 else if a1 < (v 8 3) then if a1 < 3100 then (v 10 (Int.toNat a1)) else 0 else 0
set_option maxRecDepth 100000 in
theorem p_14 {t : Int} {d : Nat} {a1 : Int} {v : Mem} {Q : Int → Mem → Prop} (h : Q (f_14 a1 v) v) : RR t (d + 1) 14 [(2, 8), (0, a1)] v Q := s_14 ⟨fun c0 => (by unfold f_14 at h; rw [if_pos c0] at h; exact h), fun c0 => ⟨fun c1 => ⟨fun c2 => (by unfold f_14 at h; rw [if_neg c0, if_pos c1, if_pos c2] at h; exact h), fun c2 => (by unfold f_14 at h; rw [if_neg c0, if_pos c1, if_neg c2] at h; exact h)⟩, fun c1 => (by unfold f_14 at h; rw [if_neg c0, if_neg c1] at h; exact h)⟩⟩
set_option maxRecDepth 100000 in
theorem w_15 {t : Int} {d : Nat} {a1 : Int} {v : Mem} {Q : Int → Mem → Prop} (h : (RR t d 16 [(2, 8), (0, a1)] v (fun x1 v1 => ((x1 = 0 → Q 0 v1) ∧ (¬ x1 = 0 → ((0 ≤ a1 ∧ a1 < 3100) ∧ Q (v1 11 (Int.toNat a1)) v1)))))) : RR t (d + 1) 15 [(2, 8), (0, a1)] v Q := wp_sound (K := k_15) (cut := []) (f := 14) (cb := false) rfl h
set_option maxRecDepth 100000 in
theorem s_15 {t : Int} {d : Nat} {a1 : Int} {v : Mem} {Q : Int → Mem → Prop} (h : ((a1 < 0 → Q 0 v) ∧ (¬ a1 < 0 → ((a1 < (v 8 3) → ((a1 < 3100 → Q (v 11 (Int.toNat a1)) v) ∧ (¬ a1 < 3100 → Q 0 v))) ∧ (¬ a1 < (v 8 3) → Q 0 v))))) : RR t (d + 1) 15 [(2, 8), (0, a1)] v Q := w_15 (s_16 ⟨fun c1 => ⟨fun _ => (h.1 c1), fun c => absurd (by decide) c⟩, fun c1 => ⟨fun c2 => ⟨fun c3 => ⟨fun c => absurd c (by decide), fun _ => ⟨⟨by omega, by omega⟩, (((h.2 c1).1 c2).1 c3)⟩⟩, fun c3 => ⟨fun _ => (((h.2 c1).1 c2).2 c3), fun c => absurd (by decide) c⟩⟩, fun c2 => ⟨fun _ => ((h.2 c1).2 c2), fun c => absurd (by decide) c⟩⟩⟩)
def f_15 (a1 : Int) (v : Mem) : Int := if a1 < 0 then 0 else if a1 < (v 8 3) then if a1 < 3100 then (v 11 (Int.toNat a1)) else 0 else 0
set_option maxRecDepth 100000 in
theorem p_15 {t : Int} {d : Nat} {a1 : Int} {v : Mem} {Q : Int → Mem → Prop} (h : Q (f_15 a1 v) v) : RR t (d + 1) 15 [(2, 8), (0, a1)] v Q := s_15 ⟨fun c0 => (by unfold f_15 at h; rw [if_pos c0] at h; exact h), fun c0 => ⟨fun c1 => ⟨fun c2 => (by unfold f_15 at h; rw [if_neg c0, if_pos c1, if_pos c2] at h; exact h), fun c2 => (by unfold f_15 at h; rw [if_neg c0, if_pos c1, if_neg c2] at h; exact h)⟩, fun c1 => (by unfold f_15 at h; rw [if_neg c0, if_neg c1] at h; exact h)⟩⟩
set_option maxRecDepth 100000 in
theorem w_18 {t : Int} {d : Nat} {v : Mem} {Q : Int → Mem → Prop} (h : Q 0 (up v 1 6 0)) : RR t d 18 [(2, 1)] v Q := wp_sound (K := k_18) (cut := []) (f := 7) (cb := false) rfl h
set_option maxRecDepth 100000 in
theorem w_19 {t : Int} {d : Nat} {a1 : Int} {v : Mem} {Q : Int → Mem → Prop} (h : (((v 1 6) < 0 → Q 0 v) ∧ (¬ (v 1 6) < 0 → (((v 1 6) < 20 → ((0 ≤ (v 1 6) ∧ (v 1 6) < 20) ∧ ((0 ≤ (v 1 6) ∧ (v 1 6) < 20) ∧ ((0 ≤ (v 1 6) ∧ (v 1 6) < 20) ∧ ((0 ≤ (v 1 6) ∧ (v 1 6) < 20) ∧ ((0 ≤ (v 1 6) ∧ (v 1 6) < 20) ∧ Q 0 (up (up (up (up (up (up v 2 (Int.toNat (v 1 6)) a1) 3 (Int.toNat (v 1 6)) 0) 5 (Int.toNat (v 1 6)) 0) 6 (Int.toNat (v 1 6)) 0) 7 (Int.toNat (v 1 6)) 0) 1 6 (w32 ((v 1 6) + 1))))))))) ∧ (¬ (v 1 6) < 20 → Q 0 v))))) : RR t d 19 [(2, 1), (1, a1)] v Q := wp_sound (K := k_19) (cut := []) (f := 47) (cb := false) rfl h
set_option maxRecDepth 100000 in
theorem s_19 {t : Int} {d : Nat} {a1 : Int} {v : Mem} {Q : Int → Mem → Prop} (h : (((v 1 6) < 0 → Q 0 v) ∧ (¬ (v 1 6) < 0 → (((v 1 6) < 20 → Q 0 (up (up (up (up (up (up v 2 (Int.toNat (v 1 6)) a1) 3 (Int.toNat (v 1 6)) 0) 5 (Int.toNat (v 1 6)) 0) 6 (Int.toNat (v 1 6)) 0) 7 (Int.toNat (v 1 6)) 0) 1 6 (w32 ((v 1 6) + 1)))) ∧ (¬ (v 1 6) < 20 → Q 0 v))))) : RR t d 19 [(2, 1), (1, a1)] v Q := w_19 ⟨fun c1 => (h.1 c1), fun c1 => ⟨fun c2 => ⟨⟨by omega, by omega⟩, ⟨⟨by omega, by omega⟩, ⟨⟨by omega, by omega⟩, ⟨⟨by omega, by omega⟩, ⟨⟨by omega, by omega⟩, ((h.2 c1).1 c2)⟩⟩⟩⟩⟩, fun c2 => ((h.2 c1).2 c2)⟩⟩
def m_19 (a1 : Int) (v : Mem) : Mem := if (v 1 6) < 0 then v else if (v 1 6) < 20 then (up (up (up (up (up (up v 2 (Int.toNat (v 1 6)) a1) 3 (Int.toNat (v 1 6)) 0) 5 (Int.toNat (v 1 6)) 0) 6 (Int.toNat (v 1 6)) 0) 7 (Int.toNat (v 1 6)) 0) 1 6 (w32 ((v 1 6) + 1))) else v
set_option maxRecDepth 100000 in
theorem p_19 {t : Int} {d : Nat} {a1 : Int} {v : Mem} {Q : Int → Mem → Prop} (h : Q 0 (m_19 a1 v)) : RR t d 19 [(2, 1), (1, a1)] v Q := s_19 ⟨fun c0 => (by unfold m_19 at h; rw [if_pos c0] at h; exact h), fun c0 => ⟨fun c1 => (by unfold m_19 at h; rw [if_neg c0, if_pos c1] at h; exact h), fun c1 => (by unfold m_19 at h; rw [if_neg c0, if_neg c1] at h; exact h)⟩⟩
set_option maxRecDepth 100000 in
theorem w_30 {t : Int} {d : Nat} {a1 : Int} {v : Mem} {Q : Int → Mem → Prop} (h : ((a1 < 0 → (((0 : Int) = 0 ∨ (0 : Int) = 1) ∧ Q 0 v)) ∧ (¬ a1 < 0 → ((a1 < (v 1 6) → ((a1 < 20 → (((1 : Int) = 0 ∨ (1 : Int) = 1) ∧ Q 1 v)) ∧ (¬ a1 < 20 → (((0 : Int) = 0 ∨ (0 : Int) = 1) ∧ Q 0 v)))) ∧ (¬ a1 < (v 1 6) → (((0 : Int) = 0 ∨ (0 : Int) = 1) ∧ Q 0 v)))))) : RR t d 30 [(2, 1), (0, a1)] v Q := wp_sound (K := k_30) (cut := []) (f := 16) (cb := false) rfl h
set_option maxRecDepth 100000 in
theorem s_30 {t : Int} {d : Nat} {a1 : Int} {v : Mem} {Q : Int → Mem → Prop} (h : ((a1 < 0 → Q 0 v) ∧ (¬ a1 < 0 → ((a1 < (v 1 6) → ((a1 < 20 → Q 1 v) ∧ (¬ a1 < 20 → Q 0 v))) ∧ (¬ a1 < (v 1 6) → Q 0 v))))) : RR t d 30 [(2, 1), (0, a1)] v Q := w_30 ⟨fun c1 => ⟨Or.inl rfl, (h.1 c1)⟩, fun c1 => ⟨fun c2 => ⟨fun c3 => ⟨Or.inr rfl, (((h.2 c1).1 c2).1 c3)⟩, fun c3 => ⟨Or.inl rfl, (((h.2 c1).1 c2).2 c3)⟩⟩, fun c2 => ⟨Or.inl rfl, ((h.2 c1).2 c2)⟩⟩⟩
set_option maxRecDepth 100000 in
theorem w_20 {t : Int} {d : Nat} {a1 a2 : Int} {v : Mem} {Q : Int → Mem → Prop} (h : (RR t d 30 [(2, 1), (0, a1)] v (fun x1 v1 => ((x1 = 0 → Q 0 v1) ∧ (¬ x1 = 0 → ((0 ≤ a1 ∧ a1 < 20) ∧ (((v1 3 (Int.toNat a1)) < 0 → Q 0 v1) ∧ (¬ (v1 3 (Int.toNat a1)) < 0 → ((0 ≤ a1 ∧ a1 < 20) ∧ (((v1 3 (Int.toNat a1)) < 6 → ((0 ≤ a1 ∧ a1 < 20) ∧ ((0 ≤ (w32 ((w32 (a1 * 6)) + (v1 3 (Int.toNat a1)))) ∧ (w32 ((w32 (a1 * 6)) + (v1 3 (Int.toNat a1)))) < 120) ∧ ((0 ≤ a1 ∧ a1 < 20) ∧ ((0 ≤ a1 ∧ a1 < 20) ∧ Q 0 (up (up v1 4 (Int.toNat (w32 ((w32 (a1 * 6)) + (v1 3 (Int.toNat a1))))) a2) 3 (Int.toNat a1) (w32 ((v1 3 (Int.toNat a1)) + 1)))))))) ∧ (¬ (v1 3 (Int.toNat a1)) < 6 → Q 0 v1))))))))))) : RR t (d + 1) 20 [(2, 1), (0, a1), (0, a2)] v Q := wp_sound (K := k_20) (cut := []) (f := 39) (cb := false) rfl h
set_option maxRecDepth 100000 in
theorem s_20 {t : Int} {d : Nat} {a1 a2 : Int} {v : Mem} {Q : Int → Mem → Prop} (h : ((a1 < 0 → Q 0 v) ∧ (¬ a1 < 0 → ((a1 < (v 1 6) → ((a1 < 20 → (((v 3 (Int.toNat a1)) < 0 → Q 0 v) ∧ (¬ (v 3 (Int.toNat a1)) < 0 → (((v 3 (Int.toNat a1)) < 6 → ((0 ≤ (w32 ((w32 (a1 * 6)) + (v 3 (Int.toNat a1)))) ∧ (w32 ((w32 (a1 * 6)) + (v 3 (Int.toNat a1)))) < 120) ∧ Q 0 (up (up v 4 (Int.toNat (w32 ((w32 (a1 * 6)) + (v 3 (Int.toNat a1))))) a2) 3 (Int.toNat a1) (w32 ((v 3 (Int.toNat a1)) + 1))))) ∧ (¬ (v 3 (Int.toNat a1)) < 6 → Q 0 v))))) ∧ (¬ a1 < 20 → Q 0 v))) ∧ (¬ a1 < (v 1 6) → Q 0 v))))) : RR t (d + 1) 20 [(2, 1), (0, a1), (0, a2)] v Q := w_20 (s_30 ⟨fun c1 => ⟨fun _ => (h.1 c1), fun c => absurd (by decide) c⟩, fun c1 => ⟨fun c2 => ⟨fun c3 => ⟨fun c => absurd c (by decide), fun _ => ⟨⟨by omega, by omega⟩, ⟨fun c4 => ((((h.2 c1).1 c2).1 c3).1 c4), fun c4 => ⟨⟨by omega, by omega⟩, ⟨fun c5 => ⟨⟨by omega, by omega⟩, ⟨(((((h.2 c1).1 c2).1 c3).2 c4).1 c5).1, ⟨⟨by omega, by omega⟩, ⟨⟨by omega, by omega⟩, (((((h.2 c1).1 c2).1 c3).2 c4).1 c5).2⟩⟩⟩⟩, fun c5 => (((((h.2 c1).1 c2).1 c3).2 c4).2 c5)⟩⟩⟩⟩⟩, fun c3 => ⟨fun _ => (((h.2 c1).1 c2).2 c3), fun c => absurd (by decide) c⟩⟩, fun c2 => ⟨fun _ => ((h.2 c1).2 c2), fun c => absurd (by decide) c⟩⟩⟩)
set_option maxRecDepth 100000 in
theorem w_21 {t : Int} {d : Nat} {a1 a2 : Int} {v : Mem} {Q : Int → Mem → Prop} (h : (RR t d 30 [(2, 1), (0, a1)] v (fun x1 v1 => ((x1 = 0 → Q 0 v1) ∧ (¬ x1 = 0 → ((0 ≤ a1 ∧ a1 < 20) ∧ Q 0 (up v1 5 (Int.toNat a1) a2))))))) : RR t (d + 1) 21 [(2, 1), (0, a1), (0, a2)] v Q := wp_sound (K := k_21) (cut := []) (f := 13) (cb := false) rfl h
set_option maxRecDepth 100000 in
theorem s_21 {t : Int} {d : Nat} {a1 a2 : Int} {v : Mem} {Q : Int → Mem → Prop} (h : ((a1 < 0 → Q 0 v) ∧ (¬ a1 < 0 → ((a1 < (v 1 6) → ((a1 < 20 → Q 0 (up v 5 (Int.toNat a1) a2)) ∧ (¬ a1 < 20 → Q 0 v))) ∧ (¬ a1 < (v 1 6) → Q 0 v))))) : RR t (d + 1) 21 [(2, 1), (0, a1), (0, a2)] v Q := w_21 (s_30 ⟨fun c1 => ⟨fun _ => (h.1 c1), fun c => absurd (by decide) c⟩, fun c1 => ⟨fun c2 => ⟨fun c3 => ⟨fun c => absurd c (by decide), fun _ => ⟨⟨by omega, by omega⟩, (((h.2 c1).1 c2).1 c3)⟩⟩, fun c3 => ⟨fun _ => (((h.2 c1).1 c2).2 c3), fun c => absurd (by decide) c⟩⟩, fun c2 => ⟨fun _ => ((h.2 c1).2 c2), fun c => absurd (by decide) c⟩⟩⟩)
def m_21 (a1 : Int) (a2 : Int) (v : Mem) : Mem := if a1 < 0 then v else if a1 < (v 1 6) then if a1 < 20 then (up v 5 (Int.toNat a1) a2) else v else v
set_option maxRecDepth 100000 in
theorem p_21 {t : Int} {d : Nat} {a1 a2 : Int} {v : Mem} {Q : Int → Mem → Prop} (h : Q 0 (m_21 a1 a2 v)) : RR t (d + 1) 21 [(2, 1), (0, a1), (0, a2)] v Q := s_21 ⟨fun c0 => (by unfold m_21 at h; rw [if_pos c0] at h; exact h), fun c0 => ⟨fun c1 => ⟨fun c2 => (by unfold m_21 at h; rw [if_neg c0, if_pos c1, if_pos c2] at h; exact h), fun c2 => (by unfold m_21 at h; rw [if_neg c0, if_pos c1, if_neg c2] at h; exact h)⟩, fun c1 => (by unfold m_21 at h; rw [if_neg c0, if_neg c1] at h; exact h)⟩⟩
set_option maxRecDepth 100000 in
theorem w_22 {t : Int} {d : Nat} {a1 a2 : Int} {v : Mem} {Q : Int → Mem → Prop} (h : (RR t d 30 [(2, 1), (0, a1)] v (fun x1 v1 => ((x1 = 0 → Q 0 v1) ∧ (¬ x1 = 0 → ((0 ≤ a1 ∧ a1 < 20) ∧ Q 0 (up v1 6 (Int.toNat a1) a2))))))) : RR t (d + 1) 22 [(2, 1), (0, a1), (0, a2)] v Q := wp_sound (K := k_22) (cut := []) (f := 13) (cb := false) rfl h
set_option maxRecDepth 100000 in
theorem s_22 {t : Int} {d : Nat} {a1 a2 : Int} {v : Mem} {Q : Int → Mem → Prop} (h : ((a1 < 0 → Q 0 v) ∧ (¬ a1 < 0 → ((a1 < (v 1 6) → ((a1 < 20 → Q 0 (up v 6 (Int.toNat a1) a2)) ∧ (¬ a1 < 20 → Q 0 v))) ∧ (¬ a1 < (v 1 6) → Q 0 v))))) : RR t (d + 1) 22 [(2, 1), (0, a1), (0, a2)] v Q := w_22 (s_30 ⟨fun c1 => ⟨fun _ => (h.1 c1), fun c => absurd (by decide) c⟩, fun c1 => ⟨fun c2 => ⟨fun c3 => ⟨fun c => absurd c (by decide), fun _ => ⟨⟨by omega, by omega⟩, (((h.2 c1).1 c2).1 c3)⟩⟩, fun c3 => ⟨fun _ => (((h.2 c1).1 c2).2 c3), fun c => absurd (by decide) c⟩⟩, fun c2 => ⟨fun _ => ((h.2 c1).2 c2), fun c => absurd (by decide) c⟩⟩⟩)
def m_22 (a1 : Int) (a2 : Int) (v : Mem) : Mem := if a1 < 0 then v else if a1 < (v 1 6) then if a1 < 20 then (up v 6 (Int.toNat a1) a2) else v else v
set_option maxRecDepth 100000 in
theorem p_22 {t : Int} {d : Nat} {a1 a2 : Int} {v : Mem} {Q : Int → Mem → Prop} (h : Q 0 (m_22 a1 a2 v)) : RR t (d + 1) 22 [(2, 1), (0, a1), (0, a2)] v Q := s_22 ⟨fun c0 => (by unfold m_22 at h; rw [if_pos c0] at h; exact h), fun c0 => ⟨fun c1 => ⟨fun c2 => (by unfold m_22 at h; rw [if_neg c0, if_pos c1, if_pos c2] at h; exact h), fun c2 => (by unfold m_22 at h; rw [if_neg c0, if_pos c1, if_neg c2] at h; exact h)⟩, fun c1 => (by unfold m_22 at h; rw [if_neg c0, if_neg c1] at h; exact h)⟩⟩
set_option maxRecDepth 100000 in
theorem w_23 {t : Int} {d : Nat} {a1 a2 : Int} {v : Mem} {Q : Int → Mem → Prop} (h : (RR t d 30 [(2, 1), (0, a1)] v (fun x1 v1 => ((x1 = 0 → Q 0 v1) ∧ (¬ x1 = 0 → ((0 ≤ a1 ∧ a1 < 20) ∧ Q 0 (up v1 7 (Int.toNat a1) a2))))))) : RR t (d + 1) 23 [(2, 1), (0, a1), (0, a2)] v Q := wp_sound (K := k_23) (cut := []) (f := 13) (cb := false) rfl h
set_option maxRecDepth 100000 in
theorem s_23 {t : Int} {d : Nat} {a1 a2 : Int} {v : Mem} {Q : Int → Mem → Prop} (h : ((a1 < 0 → Q 0 v) ∧ (¬ a1 < 0 → ((a1 < (v 1 6) → ((a1 < 20 → Q 0 (up v 7 (Int.toNat a1) a2)) ∧ (¬ a1 < 20 → Q 0 v))) ∧ (¬ a1 < (v 1 6) → Q 0 v))))) : RR t (d + 1) 23 [(2, 1), (0, a1), (0, a2)] v Q := w_23 (s_30 ⟨fun c1 => ⟨fun _ => (h.1 c1), fun c => absurd (by decide) c⟩, fun c1 => ⟨fun c2 => ⟨fun c3 => ⟨fun c => absurd c (by decide), fun _ => ⟨⟨by omega, by omega⟩, (((h.2 c1).1 c2).1 c3)⟩⟩, fun c3 => ⟨fun _ => (((h.2 c1).1 c2).2 c3), fun c => absurd (by decide) c⟩⟩, fun c2 => ⟨fun _ => ((h.2 c1).2 c2), fun c => absurd (by decide) c⟩⟩⟩)
def m_23 (a1 : Int) (a2 : Int) (v : Mem) : Mem := if a1 < 0 then v else if a1 < (v 1 6) then if a1 < 20 then (up v 7 (Int.toNat a1) a2) else v else v
set_option maxRecDepth 100000 in
theorem p_23 {t : Int} {d : Nat} {a1 a2 : Int} {v : Mem} {Q : Int → Mem → Prop} (h : Q 0 (m_23 a1 a2 v)) : RR t (d + 1) 23 [(2, 1), (0, a1), (0, a2)] v Q := s_23 ⟨fun c0 => (by unfold m_23 at h; rw [if_pos c0] at h; exact h), fun c0 => ⟨fun c1 => ⟨fun c2 => (by unfold m_23 at h; rw [if_neg c0, if_pos c1, if_pos c2] at h; exact h), fun c2 => (by unfold m_23 at h; rw [if_neg c0, if_pos c1, if_neg c2] at h; exact h)⟩, fun c1 => (by unfold m_23 at h; rw [if_neg c0, if_neg c1] at h; exact h)⟩⟩
set_option maxRecDepth 100000 in
theorem w_24 {t : Int} {d : Nat} {a1 : Int} {v : Mem} {Q : Int → Mem → Prop} (h : LL t d 24 2 [(2, 1), (1, a1), (3, 0), (0, 0)] [] v Q) : RR t d 24 [(2, 1), (1, a1)] v Q := wp_sound (K := k_24) (cut := [(2, [2])]) (f := 25) (cb := false) rfl h
set_option maxRecDepth 100000 in
theorem w_24_2 {t : Int} {d : Nat} {l1 l3 : Int} {v : Mem} {Q : Int → Mem → Prop} (h : ((l3 < (v 1 6) → ((l3 < 20 → ((0 ≤ l3 ∧ l3 < 20) ∧ (((lcm3 (v 2 (Int.toNat l3)) l1) = 0 → Q l3 v) ∧ (¬ (lcm3 (v 2 (Int.toNat l3)) l1) = 0 → LL t d 24 2 [(2, 1), (1, l1), (3, 0), (0, (w32 (l3 + 1)))] [] v Q)))) ∧ (¬ l3 < 20 → Q (-1) v))) ∧ (¬ l3 < (v 1 6) → Q (-1) v))) : LL t d 24 2 [(2, 1), (1, l1), (3, 0), (0, l3)] [] v Q := wp_sound (K := k_24) (cut := [(2, [2])]) (f := 25) (cb := false) rfl h
set_option maxRecDepth 100000 in
theorem w_25 {t : Int} {d : Nat} {a1 : Int} {v : Mem} {Q : Int → Mem → Prop} (h : (RR t d 30 [(2, 1), (0, a1)] v (fun x1 v1 => ((x1 = 0 → Q (-1) v1) ∧ (¬ x1 = 0 → ((0 ≤ a1 ∧ a1 < 20) ∧ Q (v1 3 (Int.toNat a1)) v1)))))) : RR t (d + 1) 25 [(2, 1), (0, a1)] v Q := wp_sound (K := k_25) (cut := []) (f := 14) (cb := false) rfl h
set_option maxRecDepth 100000 in
theorem s_25 {t : Int} {d : Nat} {a1 : Int} {v : Mem} {Q : Int → Mem → Prop} (h : ((a1 < 0 → Q (-1) v) ∧ (¬ a1 < 0 → ((a1 < (v 1 6) → ((a1 < 20 → Q (v 3 (Int.toNat a1)) v) ∧ (¬ a1 < 20 → Q (-1) v))) ∧ (¬ a1 < (v 1 6) → Q (-1) v))))) : RR t (d + 1) 25 [(2, 1), (0, a1)] v Q := w_25 (s_30 ⟨fun c1 => ⟨fun _ => (h.1 c1), fun c => absurd (by decide) c⟩, fun c1 => ⟨fun c2 => ⟨fun c3 => ⟨fun c => absurd c (by decide), fun _ => ⟨⟨by omega, by omega⟩, (((h.2 c1).1 c2).1 c3)⟩⟩, fun c3 => ⟨fun _ => (((h.2 c1).1 c2).2 c3), fun c => absurd (by decide) c⟩⟩, fun c2 => ⟨fun _ => ((h.2 c1).2 c2), fun c => absurd (by decide) c⟩⟩⟩)
def f_25 (a1 : Int) (v : Mem) : Int := if a1 < 0 then (-1) else if a1 < (v 1 6) then if a1 < 20 then (v 3 (Int.toNat a1)) else (-1) else (-1)
set_option maxRecDepth 100000 in
theorem p_25 {t : Int} {d : Nat} {a1 : Int} {v : Mem} {Q : Int → Mem → Prop} (h : Q (f_25 a1 v) v) : RR t (d + 1) 25 [(2, 1), (0, a1)] v Q := s_25 ⟨fun c0 => (by unfold f_25 at h; rw [if_pos c0] at h; exact h), fun c0 => ⟨fun c1 => ⟨fun c2 => (by unfold f_25 at h; rw [if_neg c0, if_pos c1, if_pos c2] at h; exact h), fun c2 => (by unfold f_25 at h; rw [if_neg c0, if_pos c1, if_neg c2] at h; exact h)⟩, fun c1 => (by unfold f_25 at h; rw [if_neg c0, if_neg c1] at h; exact h)⟩⟩
set_option maxRecDepth 100000 in
theorem w_26 {t : Int} {d : Nat} {a1 a2 : Int} {v : Mem} {Q : Int → Mem → Prop} (h : (RR t d 30 [(2, 1), (0, a1)] v (fun x1 v1 => ((x1 = 0 → Q 0 v1) ∧ (¬ x1 = 0 → ((a2 < 0 → Q 0 v1) ∧ (¬ a2 < 0 → ((a2 < 6 → ((0 ≤ (w32 ((w32 (a1 * 6)) + a2)) ∧ (w32 ((w32 (a1 * 6)) + a2)) < 120) ∧ Q (v1 4 (Int.toNat (w32 ((w32 (a1 * 6)) + a2)))) v1)) ∧ (¬ a2 < 6 → Q 0 v1))))))))) : RR t (d + 1) 26 [(2, 1), (0, a1), (0, a2)] v Q := wp_sound (K := k_26) (cut := []) (f := 23) (cb := false) rfl h
set_option maxRecDepth 100000 in
theorem s_26 {t : Int} {d : Nat} {a1 a2 : Int} {v : Mem} {Q : Int → Mem → Prop} (h : ((a1 < 0 → Q 0 v) ∧ (¬ a1 < 0 → ((a1 < (v 1 6) → ((a1 < 20 → ((a2 < 0 → Q 0 v) ∧ (¬ a2 < 0 → ((a2 < 6 → ((0 ≤ (w32 ((w32 (a1 * 6)) + a2)) ∧ (w32 ((w32 (a1 * 6)) + a2)) < 120) ∧ Q (v 4 (Int.toNat (w32 ((w32 (a1 * 6)) + a2)))) v)) ∧ (¬ a2 < 6 → Q 0 v))))) ∧ (¬ a1 < 20 → Q 0 v))) ∧ (¬ a1 < (v 1 6) → Q 0 v))))) : RR t (d + 1) 26 [(2, 1), (0, a1), (0, a2)] v Q := w_26 (s_30 ⟨fun c1 => ⟨fun _ => (h.1 c1), fun c => absurd (by decide) c⟩, fun c1 => ⟨fun c2 => ⟨fun c3 => ⟨fun c => absurd c (by decide), fun _ => ⟨fun c4 => ((((h.2 c1).1 c2).1 c3).1 c4), fun c4 => ⟨fun c5 => ⟨(((((h.2 c1).1 c2).1 c3).2 c4).1 c5).1, (((((h.2 c1).1 c2).1 c3).2 c4).1 c5).2⟩, fun c5 => (((((h.2 c1).1 c2).1 c3).2 c4).2 c5)⟩⟩⟩, fun c3 => ⟨fun _ => (((h.2 c1).1 c2).2 c3), fun c => absurd (by decide) c⟩⟩, fun c2 => ⟨fun _ => ((h.2 c1).2 c2), fun c => absurd (by decide) c⟩⟩⟩)
set_option maxRecDepth 100000 in
theorem w_27 {t : Int} {d : Nat} {a1 : Int} {v : Mem} {Q : Int → Mem → Prop} (h : (RR t d 30 [(2, 1), (0, a1)] v (fun x1 v1 => ((x1 = 0 → Q 0 v1) ∧ (¬ x1 = 0 → ((0 ≤ a1 ∧ a1 < 20) ∧ Q (v1 5 (Int.toNat a1)) v1)))))) : RR t (d + 1) 27 [(2, 1), (0, a1)] v Q := wp_sound (K := k_27) (cut := []) (f := 14) (cb := false) rfl h
set_option maxRecDepth 100000 in
theorem s_27 {t : Int} {d : Nat} {a1 : Int} {v : Mem} {Q : Int → Mem → Prop} (h : ((a1 < 0 → Q 0 v) ∧ (¬ a1 < 0 → ((a1 < (v 1 6) → ((a1 < 20 → Q (v 5 (Int.toNat a1)) v) ∧ (¬ a1 < 20 → Q 0 v))) ∧ (¬ a1 < (v 1 6) → Q 0 v))))) : RR t (d + 1) 27 [(2, 1), (0, a1)] v Q := w_27 (s_30 ⟨fun c1 => ⟨fun _ => (h.1 c1), fun c => absurd (by decide) c⟩, fun c1 => ⟨fun c2 => ⟨fun c3 => ⟨fun c => absurd c (by decide), fun _ => ⟨⟨by omega, by omega⟩, (((h.2 c1).1 c2).1 c3)⟩⟩, fun c3 => ⟨fun _ => (((h.2 c1).1 c2).2 c3), fun c => absurd (by decide) c⟩⟩, fun c2 => ⟨fun _ => ((h.2 c1).2 c2), fun c => absurd (by decide) c⟩⟩⟩)
def f_27 (a1 : Int) (v : Mem) : Int := if a1 < 0 then 0 else if a1 < (v 1 6) then if a1 < 20 then (v 5 (Int.toNat a1)) else 0 else 0
set_option maxRecDepth 100000 in
theorem p_27 {t : Int} {d : Nat} {a1 : Int} {v : Mem} {Q : Int → Mem → Prop} (h : Q (f_27 a1 v) v) : RR t (d + 1) 27 [(2, 1), (0, a1)] v Q := s_27 ⟨fun c0 => (by unfold f_27 at h; rw [if_pos c0] at h; exact h), fun c0 => ⟨fun c1 => ⟨fun c2 => (by unfold f_27 at h; rw [if_neg c0, if_pos c1, if_pos c2] at h; exact h), fun c2 => (by unfold f_27 at h; rw [if_neg c0, if_pos c1, if_neg c2] at h; exact h)⟩, fun c1 => (by unfold f_27 at h; rw [if_neg c0, if_neg c1] at h; exact h)⟩⟩
set_option maxRecDepth 100000 in
theorem w_28 {t : Int} {d : Nat} {a1 : Int} {v : Mem} {Q : Int → Mem → Prop} (h : (RR t d 30 [(2, 1), (0, a1)] v (fun x1 v1 => ((x1 = 0 → Q 0 v1) ∧ (¬ x1 = 0 → ((0 ≤ a1 ∧ a1 < 20) ∧ Q (v1 6 (Int.toNat a1)) v1)))))) : RR t (d + 1) 28 [(2, 1), (0, a1)] v Q := wp_sound (K := k_28) (cut := []) (f := 14) (cb := false) rfl h
set_option maxRecDepth 100000 in
theorem s_28 {t : Int} {d : Nat} {a1 : Int} {v : Mem} {Q : Int → Mem → Prop} (h : ((a1 < 0 → Q 0 v) ∧ (¬ a1 < 0 → ((a1 < (v 1 6) → ((a1 < 20 → Q (v 6 (Int.toNat a1)) v) ∧ (¬ a1 < 20 → Q 0 v))) ∧ (¬ a1 < (v 1 6) → Q 0 v))))) : RR t (d + 1) 28 [(2, 1), (0, a1)] v Q := w_28 (s_30 ⟨fun c1 => ⟨fun _ => (h.1 c1), fun c => absurd (by decide) c⟩, fun c1 => ⟨fun c2 => ⟨fun c3 => ⟨fun c => absurd c (by decide), fun _ => ⟨⟨by omega, by omega⟩, (((h.2 c1).1 c2).1 c3)⟩⟩, fun c3 => ⟨fun _ => (((h.2 c1).1 c2).2 c3), fun c => absurd (by decide) c⟩⟩, fun c2 => ⟨fun _ => ((h.2 c1).2 c2), fun c => absurd (by decide) c⟩⟩⟩)
def f_28 (a1 : Int) (v : Mem) : Int := if a1 < 0 then 0 else if a1 < (v 1 6) then if a1 < 20 then (v 6 (Int.toNat a1)) else 0 else 0
set_option maxRecDepth 100000 in
theorem p_28 {t : Int} {d : Nat} {a1 : Int} {v : Mem} {Q : Int → Mem → Prop} (h : Q (f_28 a1 v) v) : RR t (d + 1) 28 [(2, 1), (0, a1)] v Q := s_28 ⟨fun c0 => (by unfold f_28 at h; rw [if_pos c0] at h; exact h), fun c0 => ⟨fun c1 => ⟨fun c2 => (by unfold f_28 at h; rw [if_neg c0, if_pos c1, if_pos c2] at h; exact h), fun c2 => (by unfold f_28 at h; rw [if_neg c0, if_pos c1, if_neg c2] at h; exact h)⟩, fun c1 => (by unfold f_28 at h; rw [if_neg c0, if_neg c1] at h; exact h)⟩⟩
set_option maxRecDepth 100000 in
theorem w_29 {t : Int} {d : Nat} {a1 : Int} {v : Mem} {Q : Int → Mem → Prop} (h : (RR t d 30 [(2, 1), (0, a1)] v (fun x1 v1 => ((x1 = 0 → Q 0 v1) ∧ (¬ x1 = 0 → ((0 ≤ a1 ∧ a1 < 20) ∧ Q (v1 7 (Int.toNat a1)) v1)))))) : RR t (d + 1) 29 [(2, 1), (0, a1)] v Q := wp_sound (K := k_29) (cut := []) (f := 14) (cb := false) rfl h
set_option maxRecDepth 100000 in
theorem s_29 {t : Int} {d : Nat} {a1 : Int} {v : Mem} {Q : Int → Mem → Prop} (h : ((a1 < 0 → Q 0 v) ∧ (¬ a1 < 0 → ((a1 < (v 1 6) → ((a1 < 20 → Q (v 7 (Int.toNat a1)) v) ∧ (¬ a1 < 20 → Q 0 v))) ∧ (¬ a1 < (v 1 6) → Q 0 v))))) : RR t (d + 1) 29 [(2, 1), (0, a1)] v Q := w_29 (s_30 ⟨fun c1 => ⟨fun _ => (h.1 c1), fun c => absurd (by decide) c⟩, fun c1 => ⟨fun c2 => ⟨fun c3 => ⟨fun c => absurd c (by decide), fun _ => ⟨⟨by omega, by omega⟩, (((h.2 c1).1 c2).1 c3)⟩⟩, fun c3 => ⟨fun _ => (((h.2 c1).1 c2).2 c3), fun c => absurd (by decide) c⟩⟩, fun c2 => ⟨fun _ => ((h.2 c1).2 c2), fun c => absurd (by decide) c⟩⟩⟩)
def f_29 (a1 : Int) (v : Mem) : Int := if a1 < 0 then 0 else if a1 < (v 1 6) then if a1 < 20 then (v 7 (Int.toNat a1)) else 0 else 0
set_option maxRecDepth 100000 in
theorem p_29 {t : Int} {d : Nat} {a1 : Int} {v : Mem} {Q : Int → Mem → Prop} (h : Q (f_29 a1 v) v) : RR t (d + 1) 29 [(2, 1), (0, a1)] v Q := s_29 ⟨fun c0 => (by unfold f_29 at h; rw [if_pos c0] at h; exact h), fun c0 => ⟨fun c1 => ⟨fun c2 => (by unfold f_29 at h; rw [if_neg c0, if_pos c1, if_pos c2] at h; exact h), fun c2 => (by unfold f_29 at h; rw [if_neg c0, if_pos c1, if_neg c2] at h; exact h)⟩, fun c1 => (by unfold f_29 at h; rw [if_neg c0, if_neg c1] at h; exact h)⟩⟩
set_option maxRecDepth 100000 in
theorem w_32 {t : Int} {d : Nat} {a1 : Int} {v : Mem} {Q : Int → Mem → Prop} (h : LL t d 32 2 [(2, 15), (0, a1), (0, 0)] [] v Q) : RR t d 32 [(2, 15), (0, a1)] v Q := wp_sound (K := k_32) (cut := [(2, [])]) (f := 53) (cb := false) rfl h
set_option maxRecDepth 100000 in
theorem w_32_2 {t : Int} {d : Nat} {l1 l2 : Int} {v : Mem} {Q : Int → Mem → Prop} (h : ((l2 < 4000 → ((0 ≤ l2 ∧ l2 < 4000) ∧ ((0 ≤ l2 ∧ l2 < 4000) ∧ LL t (d + 1) 32 2 [(2, 15), (0, l1), (0, (w32 (l2 + 1)))] [] (up (up v 18 (Int.toNat l2) 0) 19 (Int.toNat l2) 0) Q))) ∧ (¬ l2 < 4000 → ((0 ≤ (4000 : Int) ∧ (4000 : Int) < 4001) ∧ ((0 ≤ (4000 : Int) ∧ (4000 : Int) < 4001) ∧ (RR t d 276 [(0, l1), (0, 4000)] (up (up v 16 4000 4000) 17 4000 4000) (fun x1 v1 => (RR t d 275 [(0, 0), (0, x1)] v1 (fun x2 v2 => (((0 : Int) = 0 ∨ (0 : Int) = 1) ∧ Q 0 (up (up (up (up (up (up v2 15 6 x2) 15 7 0) 15 8 0) 15 9 0) 15 10 0) 15 12 0))))))))))) : LL t (d + 1) 32 2 [(2, 15), (0, l1), (0, l2)] [] v Q := wp_sound (K := k_32) (cut := [(2, [])]) (f := 53) (cb := false) rfl h
set_option maxRecDepth 100000 in
theorem s_32_2 {t : Int} {d : Nat} {l1 l2 : Int} {v : Mem} {Q : Int → Mem → Prop} (h : ((l2 < 4000 → ((0 ≤ l2 ∧ l2 < 4000) ∧ ((0 ≤ l2 ∧ l2 < 4000) ∧ LL t (d + 1) 32 2 [(2, 15), (0, l1), (0, (w32 (l2 + 1)))] [] (up (up v 18 (Int.toNat l2) 0) 19 (Int.toNat l2) 0) Q))) ∧ (¬ l2 < 4000 → Q 0 (up (up (up (up (up (up (up (up v 16 4000 4000) 17 4000 4000) 15 6 (f_275 0 (f_276 l1 4000 (up (up v 16 4000 4000) 17 4000 4000)) (up (up v 16 4000 4000) 17 4000 4000))) 15 7 0) 15 8 0) 15 9 0) 15 10 0) 15 12 0)))) : LL t (d + 1) 32 2 [(2, 15), (0, l1), (0, l2)] [] v Q := w_32_2 ⟨fun c1 => ⟨(h.1 c1).1, ⟨(h.1 c1).2.1, (h.1 c1).2.2⟩⟩, fun c1 => ⟨⟨by decide, by decide⟩, ⟨⟨by decide, by decide⟩, p_276 (p_275 ⟨Or.inl rfl, (h.2 c1)⟩)⟩⟩⟩
set_option maxRecDepth 100000 in
theorem w_49 {t : Int} {d : Nat} {a0 : Int} {v : Mem} {Q : Int → Mem → Prop} (h : ((a0 < 0 → (((0 : Int) = 0 ∨ (0 : Int) = 1) ∧ Q 0 v)) ∧ (¬ a0 < 0 → ((a0 < 4000 → (((1 : Int) = 0 ∨ (1 : Int) = 1) ∧ Q 1 v)) ∧ (¬ a0 < 4000 → (((0 : Int) = 0 ∨ (0 : Int) = 1) ∧ Q 0 v)))))) : RR t d 49 [(0, a0)] v Q := wp_sound (K := k_49) (cut := []) (f := 12) (cb := false) rfl h
set_option maxRecDepth 100000 in
theorem s_49 {t : Int} {d : Nat} {a0 : Int} {v : Mem} {Q : Int → Mem → Prop} (h : ((a0 < 0 → Q 0 v) ∧ (¬ a0 < 0 → ((a0 < 4000 → Q 1 v) ∧ (¬ a0 < 4000 → Q 0 v))))) : RR t d 49 [(0, a0)] v Q := w_49 ⟨fun c1 => ⟨Or.inl rfl, (h.1 c1)⟩, fun c1 => ⟨fun c2 => ⟨Or.inr rfl, ((h.2 c1).1 c2)⟩, fun c2 => ⟨Or.inl rfl, ((h.2 c1).2 c2)⟩⟩⟩
set_option maxRecDepth 100000 in
theorem w_50 {t : Int} {d : Nat} {a1 a2 : Int} {v : Mem} {Q : Int → Mem → Prop} (h : (RR t d 49 [(0, a1)] v (fun x1 v1 => ((x1 = 0 → Q 0 v1) ∧ (¬ x1 = 0 → ((a2 < 0 → Q 0 v1) ∧ (¬ a2 < 0 → ((4000 < a2 → Q 0 v1) ∧ (¬ 4000 < a2 → ((0 ≤ a2 ∧ a2 < 4001) ∧ (((v1 17 (Int.toNat a2)) < 0 → Q 0 v1) ∧ (¬ (v1 17 (Int.toNat a2)) < 0 → ((4000 < (v1 17 (Int.toNat a2)) → Q 0 v1) ∧ (¬ 4000 < (v1 17 (Int.toNat a2)) → ((0 ≤ (v1 17 (Int.toNat a2)) ∧ (v1 17 (Int.toNat a2)) < 4001) ∧ ((0 ≤ a1 ∧ a1 < 4001) ∧ ((0 ≤ a1 ∧ a1 < 4001) ∧ ((0 ≤ a2 ∧ a2 < 4001) ∧ Q 0 (up (up (up (up v1 16 (Int.toNat (v1 17 (Int.toNat a2))) a1) 17 (Int.toNat a1) (v1 17 (Int.toNat a2))) 16 (Int.toNat a1) a2) 17 (Int.toNat a2) a1))))))))))))))))))) : RR t (d + 1) 50 [(2, 15), (0, a1), (0, a2)] v Q := wp_sound (K := k_50) (cut := []) (f := 43) (cb := false) rfl h
set_option maxRecDepth 100000 in
theorem s_50 {t : Int} {d : Nat} {a1 a2 : Int} {v : Mem} {Q : Int → Mem → Prop} (h : ((a1 < 0 → Q 0 v) ∧ (¬ a1 < 0 → ((a1 < 4000 → ((a2 < 0 → Q 0 v) ∧ (¬ a2 < 0 → ((4000 < a2 → Q 0 v) ∧ (¬ 4000 < a2 → (((v 17 (Int.toNat a2)) < 0 → Q 0 v) ∧ (¬ (v 17 (Int.toNat a2)) < 0 → ((4000 < (v 17 (Int.toNat a2)) → Q 0 v) ∧ (¬ 4000 < (v 17 (Int.toNat a2)) → Q 0 (up (up (up (up v 16 (Int.toNat (v 17 (Int.toNat a2))) a1) 17 (Int.toNat a1) (v 17 (Int.toNat a2))) 16 (Int.toNat a1) a2) 17 (Int.toNat a2) a1)))))))))) ∧ (¬ a1 < 4000 → Q 0 v))))) : RR t (d + 1) 50 [(2, 15), (0, a1), (0, a2)] v Q := w_50 (s_49 ⟨fun c1 => ⟨fun _ => (h.1 c1), fun c => absurd (by decide) c⟩, fun c1 => ⟨fun c2 => ⟨fun c => absurd c (by decide), fun _ => ⟨fun c3 => (((h.2 c1).1 c2).1 c3), fun c3 => ⟨fun c4 => ((((h.2 c1).1 c2).2 c3).1 c4), fun c4 => ⟨⟨by omega, by omega⟩, ⟨fun c5 => (((((h.2 c1).1 c2).2 c3).2 c4).1 c5), fun c5 => ⟨fun c6 => ((((((h.2 c1).1 c2).2 c3).2 c4).2 c5).1 c6), fun c6 => ⟨⟨by omega, by omega⟩, ⟨⟨by omega, by omega⟩, ⟨⟨by omega, by omega⟩, ⟨⟨by omega, by omega⟩, ((((((h.2 c1).1 c2).2 c3).2 c4).2 c5).2 c6)⟩⟩⟩⟩⟩⟩⟩⟩⟩⟩, fun c2 => ⟨fun _ => ((h.2 c1).2 c2), fun c => absurd (by decide) c⟩⟩⟩)
def m_50 (a1 : Int) (a2 : Int) (v : Mem) : Mem := if a1 < 0 then v else if a1 < 4000 then if a2 < 0 then v else if 4000 < a2 then v else if (v 17 (Int.toNat a2)) < 0 then v else if 4000 < (v 17 (Int.toNat a2)) then v else (up (up (up (up v 16 (Int.toNat (v 17 (Int.toNat a2))) a1) 17 (Int.toNat a1) (v 17 (Int.toNat a2))) 16 (Int.toNat a1) a2) 17 (Int.toNat a2) a1) else v
set_option maxRecDepth 100000 in
theorem p_50 {t : Int} {d : Nat} {a1 a2 : Int} {v : Mem} {Q : Int → Mem → Prop} (h : Q 0 (m_50 a1 a2 v)) : RR t (d + 1) 50 [(2, 15), (0, a1), (0, a2)] v Q := s_50 ⟨fun c0 => (by unfold m_50 at h; rw [if_pos c0] at h; exact h), fun c0 => ⟨fun c1 => ⟨fun c2 => (by unfold m_50 at h; rw [if_neg c0, if_pos c1, if_pos c2] at h; exact h), fun c2 => ⟨fun c3 => (by unfold m_50 at h; rw [if_neg c0, if_pos c1, if_neg c2, if_pos c3] at h; exact h), fun c3 => ⟨fun c4 => (by unfold m_50 at h; rw [if_neg c0, if_pos c1, if_neg c2, if_neg c3, if_pos c4] at h; exact h), fun c4 => ⟨fun c5 => (by unfold m_50 at h; rw [if_neg c0, if_pos c1, if_neg c2, if_neg c3, if_neg c4, if_pos c5] at h; exact h), fun c5 => (by unfold m_50 at h; rw [if_neg c0, if_pos c1, if_neg c2, if_neg c3, if_neg c4, if_neg c5] at h; exact h)⟩⟩⟩⟩, fun c1 => (by unfold m_50 at h; rw [if_neg c0, if_neg c1] at h; exact h)⟩⟩
set_option maxRecDepth 100000 in
theorem w_33 {t : Int} {d : Nat} {a1 : Int} {v : Mem} {Q : Int → Mem → Prop} (h : ((0 ≤ (4000 : Int) ∧ (4000 : Int) < 4001) ∧ LL t d 33 19 [(2, 15), (3, 0), (0, (w32 (a1 + 1))), (0, 0), (0, (v 16 4000)), (0, 0)] [] v Q)) : RR t d 33 [(2, 15), (0, a1)] v Q := wp_sound (K := k_33) (cut := [(19, [1]), (69, [1, 5])]) (f := 104) (cb := false) rfl h
set_option maxRecDepth 100000 in
theorem s_33 {t : Int} {d : Nat} {a1 : Int} {v : Mem} {Q : Int → Mem → Prop} (h : LL t d 33 19 [(2, 15), (3, 0), (0, (w32 (a1 + 1))), (0, 0), (0, (v 16 4000)), (0, 0)] [] v Q) : RR t d 33 [(2, 15), (0, a1)] v Q := w_33 ⟨⟨by decide, by decide⟩, h⟩
set_option maxRecDepth 100000 in
theorem w_33_19 {t : Int} {d : Nat} {l2 l3 l4 l5 : Int} {v : Mem} {Q : Int → Mem → Prop} (h : ((l5 < 4000 → (RR t d 49 [(0, l4)] v (fun x1 v1 => ((x1 = 0 → LL t (d + 1) 33 69 [(2, 15), (3, 0), (0, l2), (0, l3), (0, l4), (3, 0)] [] v1 Q) ∧ (¬ x1 = 0 → (((w32 (l4 - l3)) < l2 → ((0 ≤ l4 ∧ l4 < 4000) ∧ ((0 ≤ l4 ∧ l4 < 4001) ∧ LL t (d + 1) 33 19 [(2, 15), (3, 0), (0, l2), (0, (w32 (l4 + (v1 18 (Int.toNat l4))))), (0, (v1 16 (Int.toNat l4))), (0, (w32 (l5 + 1)))] [] v1 Q))) ∧ (¬ (w32 (l4 - l3)) < l2 → LL t (d + 1) 33 69 [(2, 15), (3, 0), (0, l2), (0, l3), (0, l4), (3, 0)] [] v1 Q))))))) ∧ (¬ l5 < 4000 → LL t (d + 1) 33 69 [(2, 15), (3, 0), (0, l2), (0, l3), (0, l4), (3, 0)] [] v Q))) : LL t (d + 1) 33 19 [(2, 15), (3, 0), (0, l2), (0, l3), (0, l4), (0, l5)] [] v Q := wp_sound (K := k_33) (cut := [(19, [1]), (69, [1, 5])]) (f := 104) (cb := false) rfl h
set_option maxRecDepth 100000 in
theorem s_33_19 {t : Int} {d : Nat} {l2 l3 l4 l5 : Int} {v : Mem} {Q : Int → Mem → Prop} (h : ((l5 < 4000 → ((l4 < 0 → LL t (d + 1) 33 69 [(2, 15), (3, 0), (0, l2), (0, l3), (0, l4), (3, 0)] [] v Q) ∧ (¬ l4 < 0 → ((l4 < 4000 → (((w32 (l4 - l3)) < l2 → LL t (d + 1) 33 19 [(2, 15), (3, 0), (0, l2), (0, (w32 (l4 + (v 18 (Int.toNat l4))))), (0, (v 16 (Int.toNat l4))), (0, (w32 (l5 + 1)))] [] v Q) ∧ (¬ (w32 (l4 - l3)) < l2 → LL t (d + 1) 33 69 [(2, 15), (3, 0), (0, l2), (0, l3), (0, l4), (3, 0)] [] v Q))) ∧ (¬ l4 < 4000 → LL t (d + 1) 33 69 [(2, 15), (3, 0), (0, l2), (0, l3), (0, l4), (3, 0)] [] v Q))))) ∧ (¬ l5 < 4000 → LL t (d + 1) 33 69 [(2, 15), (3, 0), (0, l2), (0, l3), (0, l4), (3, 0)] [] v Q))) : LL t (d + 1) 33 19 [(2, 15), (3, 0), (0, l2), (0, l3), (0, l4), (0, l5)] [] v Q := w_33_19 ⟨fun c1 => s_49 ⟨fun c2 => ⟨fun _ => ((h.1 c1).1 c2), fun c => absurd (by decide) c⟩, fun c2 => ⟨fun c3 => ⟨fun c => absurd c (by decide), fun _ => ⟨fun c4 => ⟨⟨by omega, by omega⟩, ⟨⟨by omega, by omega⟩, ((((h.1 c1).2 c2).1 c3).1 c4)⟩⟩, fun c4 => ((((h.1 c1).2 c2).1 c3).2 c4)⟩⟩, fun c3 => ⟨fun _ => (((h.1 c1).2 c2).2 c3), fun c => absurd (by decide) c⟩⟩⟩, fun c1 => (h.2 c1)⟩
set_option maxRecDepth 100000 in
theorem w_33_69 {t : Int} {d : Nat} {l2 l3 l4 : Int} {v : Mem} {Q : Int → Mem → Prop} (h : ((l3 < 0 → Q (-1) v) ∧ (¬ l3 < 0 → ((l3 < (v 15 6) → (RR t d 49 [(0, l4)] v (fun x1 v1 => ((x1 = 0 → (((w32 ((v1 15 6) - l3)) < l2 → Q (-1) v1) ∧ (¬ (w32 ((v1 15 6) - l3)) < l2 → (RR t d 50 [(2, 15), (0, l3), (0, l4)] v1 (fun x2 v2 => ((0 ≤ l3 ∧ l3 < 4000) ∧ ((0 ≤ l3 ∧ l3 < 4000) ∧ ((0 ≤ l3 ∧ l3 < 4000) ∧ (RR t d 275 [(0, (v2 15 9)), (0, (w32 ((v2 15 8) + l2)))] (up (up (up (up (up v2 18 (Int.toNat l3) l2) 19 (Int.toNat l3) 0) 20 (Int.toNat l3) (v2 15 7)) 15 7 (w32 ((v2 15 7) + 1))) 15 8 (w32 ((v2 15 8) + l2))) (fun x3 v3 => (((1 : Int) = 0 ∨ (1 : Int) = 1) ∧ Q l3 (up (up v3 15 9 x3) 15 12 1)))))))))))) ∧ (¬ x1 = 0 → (((w32 (l4 - l3)) < l2 → Q (-1) v1) ∧ (¬ (w32 (l4 - l3)) < l2 → (RR t d 50 [(2, 15), (0, l3), (0, l4)] v1 (fun x4 v4 => ((0 ≤ l3 ∧ l3 < 4000) ∧ ((0 ≤ l3 ∧ l3 < 4000) ∧ ((0 ≤ l3 ∧ l3 < 4000) ∧ (RR t d 275 [(0, (v4 15 9)), (0, (w32 ((v4 15 8) + l2)))] (up (up (up (up (up v4 18 (Int.toNat l3) l2) 19 (Int.toNat l3) 0) 20 (Int.toNat l3) (v4 15 7)) 15 7 (w32 ((v4 15 7) + 1))) 15 8 (w32 ((v4 15 8) + l2))) (fun x5 v5 => (((1 : Int) = 0 ∨ (1 : Int) = 1) ∧ Q l3 (up (up v5 15 9 x5) 15 12 1)))))))))))))))) ∧ (¬ l3 < (v 15 6) → Q (-1) v))))) : LL t (d + 1) 33 69 [(2, 15), (3, 0), (0, l2), (0, l3), (0, l4), (3, 0)] [] v Q := wp_sound (K := k_33) (cut := [(19, [1]), (69, [1, 5])]) (f := 104) (cb := false) rfl h
set_option maxRecDepth 100000 in
theorem s_33_69 {t : Int} {d : Nat} {l2 l3 l4 : Int} {v : Mem} {Q : Int → Mem → Prop} (h : ((l3 < 0 → Q (-1) v) ∧ (¬ l3 < 0 → ((l3 < (v 15 6) → ((l4 < 0 → (((w32 ((v 15 6) - l3)) < l2 → Q (-1) v) ∧ (¬ (w32 ((v 15 6) - l3)) < l2 → ((0 ≤ l3 ∧ l3 < 4000) ∧ ((0 ≤ l3 ∧ l3 < 4000) ∧ ((0 ≤ l3 ∧ l3 < 4000) ∧ Q l3 (up (up (up (up (up (up (up (m_50 l3 l4 v) 18 (Int.toNat l3) l2) 19 (Int.toNat l3) 0) 20 (Int.toNat l3) (m_50 l3 l4 v 15 7)) 15 7 (w32 ((m_50 l3 l4 v 15 7) + 1))) 15 8 (w32 ((m_50 l3 l4 v 15 8) + l2))) 15 9 (f_275 (m_50 l3 l4 v 15 9) (w32 ((m_50 l3 l4 v 15 8) + l2)) (up (up (up (up (up (m_50 l3 l4 v) 18 (Int.toNat l3) l2) 19 (Int.toNat l3) 0) 20 (Int.toNat l3) (m_50 l3 l4 v 15 7)) 15 7 (w32 ((m_50 l3 l4 v 15 7) + 1))) 15 8 (w32 ((m_50 l3 l4 v 15 8) + l2))))) 15 12 1))))))) ∧ (¬ l4 < 0 → ((l4 < 4000 → (((w32 (l4 - l3)) < l2 → Q (-1) v) ∧ (¬ (w32 (l4 - l3)) < l2 → ((0 ≤ l3 ∧ l3 < 4000) ∧ ((0 ≤ l3 ∧ l3 < 4000) ∧ ((0 ≤ l3 ∧ l3 < 4000) ∧ Q l3 (up (up (up (up (up (up (up (m_50 l3 l4 v) 18 (Int.toNat l3) l2) 19 (Int.toNat l3) 0) 20 (Int.toNat l3) (m_50 l3 l4 v 15 7)) 15 7 (w32 ((m_50 l3 l4 v 15 7) + 1))) 15 8 (w32 ((m_50 l3 l4 v 15 8) + l2))) 15 9 (f_275 (m_50 l3 l4 v 15 9) (w32 ((m_50 l3 l4 v 15 8) + l2)) (up (up (up (up (up (m_50 l3 l4 v) 18 (Int.toNat l3) l2) 19 (Int.toNat l3) 0) 20 (Int.toNat l3) (m_50 l3 l4 v 15 7)) 15 7 (w32 ((m_50 l3 l4 v 15 7) + 1))) 15 8 (w32 ((m_50 l3 l4 v 15 8) + l2))))) 15 12 1))))))) ∧ (¬ l4 < 4000 → (((w32 ((v 15 6) - l3)) < l2 → Q (-1) v) ∧ (¬ (w32 ((v 15 6) - l3)) < l2 → ((0 ≤ l3 ∧ l3 < 4000) ∧ ((0 ≤ l3 ∧ l3 < 4000) ∧ ((0 ≤ l3 ∧ l3 < 4000) ∧ Q l3 (up (up (up (up (up (up (up (m_50 l3 l4 v) 18 (Int.toNat l3) l2) 19 (Int.toNat l3) 0) 20 (Int.toNat l3) (m_50 l3 l4 v 15 7)) 15 7 (w32 ((m_50 l3 l4 v 15 7) + 1))) 15 8 (w32 ((m_50 l3 l4 v 15 8) + l2))) 15 9 (f_275 (m_50 l3 l4 v 15 9) (w32 ((m_50 l3 l4 v 15 8) + l2)) (up (up (up (up (up (m_50 l3 l4 v) 18 (Int.toNat l3) l2) 19 (Int.toNat l3) 0) 20 (Int.toNat l3) (m_50 l3 l4 v 15 7)) 15 7 (w32 ((m_50 l3 l4 v 15 7) + 1))) 15 8 (w32 ((m_50 l3 l4 v 15 8) + l2))))) 15 12 1))))))))))) ∧ (¬ l3 < (v 15 6) → Q (-1) v))))) : LL t (d + 2) 33 69 [(2, 15), (3, 0), (0, l2), (0, l3), (0, l4), (3, 0)] [] v Q := w_33_69 ⟨fun c1 => (h.1 c1), fun c1 => ⟨fun c2 => s_49 ⟨fun c3 => ⟨fun _ => ⟨fun c4 => ((((h.2 c1).1 c2).1 c3).1 c4), fun c4 => p_50 ⟨((((h.2 c1).1 c2).1 c3).2 c4).1, ⟨((((h.2 c1).1 c2).1 c3).2 c4).2.1, ⟨((((h.2 c1).1 c2).1 c3).2 c4).2.2.1, p_275 ⟨Or.inr rfl, ((((h.2 c1).1 c2).1 c3).2 c4).2.2.2⟩⟩⟩⟩⟩, fun c => absurd (by decide) c⟩, fun c3 => ⟨fun c5 => ⟨fun c => absurd c (by decide), fun _ => ⟨fun c6 => (((((h.2 c1).1 c2).2 c3).1 c5).1 c6), fun c6 => p_50 ⟨(((((h.2 c1).1 c2).2 c3).1 c5).2 c6).1, ⟨(((((h.2 c1).1 c2).2 c3).1 c5).2 c6).2.1, ⟨(((((h.2 c1).1 c2).2 c3).1 c5).2 c6).2.2.1, p_275 ⟨Or.inr rfl, (((((h.2 c1).1 c2).2 c3).1 c5).2 c6).2.2.2⟩⟩⟩⟩⟩⟩, fun c5 => ⟨fun _ => ⟨fun c7 => (((((h.2 c1).1 c2).2 c3).2 c5).1 c7), fun c7 => p_50 ⟨(((((h.2 c1).1 c2).2 c3).2 c5).2 c7).1, ⟨(((((h.2 c1).1 c2).2 c3).2 c5).2 c7).2.1, ⟨(((((h.2 c1).1 c2).2 c3).2 c5).2 c7).2.2.1, p_275 ⟨Or.inr rfl, (((((h.2 c1).1 c2).2 c3).2 c5).2 c7).2.2.2⟩⟩⟩⟩⟩, fun c => absurd (by decide) c⟩⟩⟩, fun c2 => ((h.2 c1).2 c2)⟩⟩
set_option maxRecDepth 100000 in
theorem w_34 {t : Int} {d : Nat} {a1 : Int} {v : Mem} {Q : Int → Mem → Prop} (h : ((a1 < 0 → Q 0 v) ∧ (¬ a1 < 0 → ((a1 < 4000 → ((0 ≤ a1 ∧ a1 < 4000) ∧ ((0 ≤ a1 ∧ a1 < 4000) ∧ Q 0 (up v 19 (Int.toNat a1) (w32 ((v 19 (Int.toNat a1)) + 1)))))) ∧ (¬ a1 < 4000 → Q 0 v))))) : RR t d 34 [(2, 15), (0, a1)] v Q := wp_sound (K := k_34) (cut := []) (f := 17) (cb := false) rfl h
set_option maxRecDepth 100000 in
theorem s_34 {t : Int} {d : Nat} {a1 : Int} {v : Mem} {Q : Int → Mem → Prop} (h : ((a1 < 0 → Q 0 v) ∧ (¬ a1 < 0 → ((a1 < 4000 → Q 0 (up v 19 (Int.toNat a1) (w32 ((v 19 (Int.toNat a1)) + 1)))) ∧ (¬ a1 < 4000 → Q 0 v))))) : RR t d 34 [(2, 15), (0, a1)] v Q := w_34 ⟨fun c1 => (h.1 c1), fun c1 => ⟨fun c2 => ⟨⟨by omega, by omega⟩, ⟨⟨by omega, by omega⟩, ((h.2 c1).1 c2)⟩⟩, fun c2 => ((h.2 c1).2 c2)⟩⟩
def m_34 (a1 : Int) (v : Mem) : Mem := if a1 < 0 then v else if a1 < 4000 then (up v 19 (Int.toNat a1) (w32 ((v 19 (Int.toNat a1)) + 1))) else v
set_option maxRecDepth 100000 in
theorem p_34 {t : Int} {d : Nat} {a1 : Int} {v : Mem} {Q : Int → Mem → Prop} (h : Q 0 (m_34 a1 v)) : RR t d 34 [(2, 15), (0, a1)] v Q := s_34 ⟨fun c0 => (by unfold m_34 at h; rw [if_pos c0] at h; exact h), fun c0 => ⟨fun c1 => (by unfold m_34 at h; rw [if_neg c0, if_pos c1] at h; exact h), fun c1 => (by unfold m_34 at h; rw [if_neg c0, if_neg c1] at h; exact h)⟩⟩
set_option maxRecDepth 100000 in
theorem w_35 {t : Int} {d : Nat} {a1 : Int} {v : Mem} {Q : Int → Mem → Prop} (h : ((a1 < 0 → Q 0 v) ∧ (¬ a1 < 0 → ((a1 < 4000 → (((1 : Int) = 0 ∨ (1 : Int) = 1) ∧ ((0 ≤ a1 ∧ a1 < 4000) ∧ ((0 ≤ a1 ∧ a1 < 4000) ∧ ((0 ≤ a1 ∧ a1 < 4000) ∧ ((0 < (up (up v 15 12 1) 19 (Int.toNat a1) (w32 ((v 19 (Int.toNat a1)) - 1)) 19 (Int.toNat a1)) → Q 0 (up (up v 15 12 1) 19 (Int.toNat a1) (w32 ((v 19 (Int.toNat a1)) - 1)))) ∧ (¬ 0 < (up (up v 15 12 1) 19 (Int.toNat a1) (w32 ((v 19 (Int.toNat a1)) - 1)) 19 (Int.toNat a1)) → ((0 ≤ a1 ∧ a1 < 4000) ∧ ((0 < (v 18 (Int.toNat a1)) → ((0 ≤ a1 ∧ a1 < 4000) ∧ ((0 ≤ a1 ∧ a1 < 4000) ∧ ((0 ≤ a1 ∧ a1 < 4001) ∧ ((0 ≤ a1 ∧ a1 < 4001) ∧ (((v 17 (Int.toNat a1)) < 0 → Q 0 (up (up (up (up v 15 12 1) 19 (Int.toNat a1) (w32 ((v 19 (Int.toNat a1)) - 1))) 15 8 (w32 ((v 15 8) - (v 18 (Int.toNat a1))))) 18 (Int.toNat a1) 0)) ∧ (¬ (v 17 (Int.toNat a1)) < 0 → ((4000 < (v 17 (Int.toNat a1)) → Q 0 (up (up (up (up v 15 12 1) 19 (Int.toNat a1) (w32 ((v 19 (Int.toNat a1)) - 1))) 15 8 (w32 ((v 15 8) - (v 18 (Int.toNat a1))))) 18 (Int.toNat a1) 0)) ∧ (¬ 4000 < (v 17 (Int.toNat a1)) → (((v 16 (Int.toNat a1)) < 0 → Q 0 (up (up (up (up v 15 12 1) 19 (Int.toNat a1) (w32 ((v 19 (Int.toNat a1)) - 1))) 15 8 (w32 ((v 15 8) - (v 18 (Int.toNat a1))))) 18 (Int.toNat a1) 0)) ∧ (¬ (v 16 (Int.toNat a1)) < 0 → ((4000 < (v 16 (Int.toNat a1)) → Q 0 (up (up (up (up v 15 12 1) 19 (Int.toNat a1) (w32 ((v 19 (Int.toNat a1)) - 1))) 15 8 (w32 ((v 15 8) - (v 18 (Int.toNat a1))))) 18 (Int.toNat a1) 0)) ∧ (¬ 4000 < (v 16 (Int.toNat a1)) → ((0 ≤ (v 17 (Int.toNat a1)) ∧ (v 17 (Int.toNat a1)) < 4001) ∧ ((0 ≤ (v 16 (Int.toNat a1)) ∧ (v 16 (Int.toNat a1)) < 4001) ∧ Q 0 (up (up (up (up (up (up v 15 12 1) 19 (Int.toNat a1) (w32 ((v 19 (Int.toNat a1)) - 1))) 15 8 (w32 ((v 15 8) - (v 18 (Int.toNat a1))))) 18 (Int.toNat a1) 0) 16 (Int.toNat (v 17 (Int.toNat a1))) (v 16 (Int.toNat a1))) 17 (Int.toNat (v 16 (Int.toNat a1))) (v 17 (Int.toNat a1)))))))))))))))))) ∧ (¬ 0 < (v 18 (Int.toNat a1)) → Q 0 (up (up v 15 12 1) 19 (Int.toNat a1) (w32 ((v 19 (Int.toNat a1)) - 1))))))))))))) ∧ (¬ a1 < 4000 → Q 0 v))))) : RR t d 35 [(2, 15), (0, a1)] v Q := wp_sound (K := k_35) (cut := []) (f := 76) (cb := false) rfl h
set_option maxRecDepth 100000 in
theorem s_35 {t : Int} {d : Nat} {a1 : Int} {v : Mem} {Q : Int → Mem → Prop} (h : ((a1 < 0 → Q 0 v) ∧ (¬ a1 < 0 → ((a1 < 4000 → ((0 < (up (up v 15 12 1) 19 (Int.toNat a1) (w32 ((v 19 (Int.toNat a1)) - 1)) 19 (Int.toNat a1)) → Q 0 (up (up v 15 12 1) 19 (Int.toNat a1) (w32 ((v 19 (Int.toNat a1)) - 1)))) ∧ (¬ 0 < (up (up v 15 12 1) 19 (Int.toNat a1) (w32 ((v 19 (Int.toNat a1)) - 1)) 19 (Int.toNat a1)) → ((0 < (v 18 (Int.toNat a1)) → (((v 17 (Int.toNat a1)) < 0 → Q 0 (up (up (up (up v 15 12 1) 19 (Int.toNat a1) (w32 ((v 19 (Int.toNat a1)) - 1))) 15 8 (w32 ((v 15 8) - (v 18 (Int.toNat a1))))) 18 (Int.toNat a1) 0)) ∧ (¬ (v 17 (Int.toNat a1)) < 0 → ((4000 < (v 17 (Int.toNat a1)) → Q 0 (up (up (up (up v 15 12 1) 19 (Int.toNat a1) (w32 ((v 19 (Int.toNat a1)) - 1))) 15 8 (w32 ((v 15 8) - (v 18 (Int.toNat a1))))) 18 (Int.toNat a1) 0)) ∧ (¬ 4000 < (v 17 (Int.toNat a1)) → (((v 16 (Int.toNat a1)) < 0 → Q 0 (up (up (up (up v 15 12 1) 19 (Int.toNat a1) (w32 ((v 19 (Int.toNat a1)) - 1))) 15 8 (w32 ((v 15 8) - (v 18 (Int.toNat a1))))) 18 (Int.toNat a1) 0)) ∧ (¬ (v 16 (Int.toNat a1)) < 0 → ((4000 < (v 16 (Int.toNat a1)) → Q 0 (up (up (up (up v 15 12 1) 19 (Int.toNat a1) (w32 ((v 19 (Int.toNat a1)) - 1))) 15 8 (w32 ((v 15 8) - (v 18 (Int.toNat a1))))) 18 (Int.toNat a1) 0)) ∧ (¬ 4000 < (v 16 (Int.toNat a1)) → Q 0 (up (up (up (up (up (up v 15 12 1) 19 (Int.toNat a1) (w32 ((v 19 (Int.toNat a1)) - 1))) 15 8 (w32 ((v 15 8) - (v 18 (Int.toNat a1))))) 18 (Int.toNat a1) 0) 16 (Int.toNat (v 17 (Int.toNat a1))) (v 16 (Int.toNat a1))) 17 (Int.toNat (v 16 (Int.toNat a1))) (v 17 (Int.toNat a1)))))))))))) ∧ (¬ 0 < (v 18 (Int.toNat a1)) → Q 0 (up (up v 15 12 1) 19 (Int.toNat a1) (w32 ((v 19 (Int.toNat a1)) - 1)))))))) ∧ (¬ a1 < 4000 → Q 0 v))))) : RR t d 35 [(2, 15), (0, a1)] v Q := w_35 ⟨fun c1 => (h.1 c1), fun c1 => ⟨fun c2 => ⟨Or.inr rfl, ⟨⟨by omega, by omega⟩, ⟨⟨by omega, by omega⟩, ⟨⟨by omega, by omega⟩, ⟨fun c3 => (((h.2 c1).1 c2).1 c3), fun c3 => ⟨⟨by omega, by omega⟩, ⟨fun c4 => ⟨⟨by omega, by omega⟩, ⟨⟨by omega, by omega⟩, ⟨⟨by omega, by omega⟩, ⟨⟨by omega, by omega⟩, ⟨fun c5 => (((((h.2 c1).1 c2).2 c3).1 c4).1 c5), fun c5 => ⟨fun c6 => ((((((h.2 c1).1 c2).2 c3).1 c4).2 c5).1 c6), fun c6 => ⟨fun c7 => (((((((h.2 c1).1 c2).2 c3).1 c4).2 c5).2 c6).1 c7), fun c7 => ⟨fun c8 => ((((((((h.2 c1).1 c2).2 c3).1 c4).2 c5).2 c6).2 c7).1 c8), fun c8 => ⟨⟨by omega, by omega⟩, ⟨⟨by omega, by omega⟩, ((((((((h.2 c1).1 c2).2 c3).1 c4).2 c5).2 c6).2 c7).2 c8)⟩⟩⟩⟩⟩⟩⟩⟩⟩⟩, fun c4 => ((((h.2 c1).1 c2).2 c3).2 c4)⟩⟩⟩⟩⟩⟩⟩, fun c2 => ((h.2 c1).2 c2)⟩⟩
def m_35 (a1 : Int) (v : Mem) : Mem := if a1 < 0 then v else if a1 < 4000 then if 0 < (up (up v 15 12 1) 19 (Int.toNat a1) (w32 ((v 19 (Int.toNat a1)) - 1)) 19 (Int.toNat a1)) then (up (up v 15 12 1) 19 (Int.toNat a1) (w32 ((v 19 (Int.toNat a1)) - 1))) else if 0 < (v 18 (Int.toNat a1)) then if (v 17 (Int.toNat a1)) < 0 then (up (up (up (up v 15 12 1) 19 (Int.toNat a1) (w32 ((v 19 (Int.toNat a1)) - 1))) 15 8 (w32 ((v 15 8) - (v 18 (Int.toNat a1))))) 18 (Int.toNat a1) 0) else if 4000 < (v 17 (Int.toNat a1)) then (up (up (up (up v 15 12 1) 19 (Int.toNat a1) (w32 ((v 19 (Int.toNat a1)) - 1))) 15 8 (w32 ((v 15 8) - (v 18 (Int.toNat a1))))) 18 (Int.toNat a1) 0) else if (v 16 (Int.toNat a1)) < 0 then (up (up (up (up v 15 12 1) 19 (Int.toNat a1) (w32 ((v 19 (Int.toNat a1)) - 1))) 15 8 (w32 ((v 15 8) - (v 18 (Int.toNat a1))))) 18 (Int.toNat a1) 0) else if 4000 < (v 16 (Int.toNat a1)) then (up (up (up (up v 15 12 1) 19 (Int.toNat a1) (w32 ((v 19 (Int.toNat a1)) - 1))) 15 8 (w32 ((v 15 8) - (v 18 (Int.toNat a1))))) 18 (Int.toNat a1) 0) else (up (up (up (up (up (up v 15 12 1) 19 (Int.toNat a1) (w32 ((v 19 (Int.toNat a1)) - 1))) 15 8 (w32 ((v 15 8) - (v 18 (Int.toNat a1))))) 18 (Int.toNat a1) 0) 16 (Int.toNat (v 17 (Int.toNat a1))) (v 16 (Int.toNat a1))) 17 (Int.toNat (v 16 (Int.toNat a1))) (v 17 (Int.toNat a1))) else (up (up v 15 12 1) 19 (Int.toNat a1) (w32 ((v 19 (Int.toNat a1)) - 1))) else v
set_option maxRecDepth 100000 in
theorem p_35 {t : Int} {d : Nat} {a1 : Int} {v : Mem} {Q : Int → Mem → Prop} (h : Q 0 (m_35 a1 v)) : RR t d 35 [(2, 15), (0, a1)] v Q := s_35 ⟨fun c0 => (by unfold m_35 at h; rw [if_pos c0] at h; exact h), fun c0 => ⟨fun c1 => ⟨fun c2 => (by unfold m_35 at h; rw [if_neg c0, if_pos c1, if_pos c2] at h; exact h), fun c2 => ⟨fun c3 => ⟨fun c4 => (by unfold m_35 at h; rw [if_neg c0, if_pos c1, if_neg c2, if_pos c3, if_pos c4] at h; exact h), fun c4 => ⟨fun c5 => (by unfold m_35 at h; rw [if_neg c0, if_pos c1, if_neg c2, if_pos c3, if_neg c4, if_pos c5] at h; exact h), fun c5 => ⟨fun c6 => (by unfold m_35 at h; rw [if_neg c0, if_pos c1, if_neg c2, if_pos c3, if_neg c4, if_neg c5, if_pos c6] at h; exact h), fun c6 => ⟨fun c7 => (by unfold m_35 at h; rw [if_neg c0, if_pos c1, if_neg c2, if_pos c3, if_neg c4, if_neg c5, if_neg c6, if_pos c7] at h; exact h), fun c7 => (by unfold m_35 at h; rw [if_neg c0, if_pos c1, if_neg c2, if_pos c3, if_neg c4, if_neg c5, if_neg c6, if_neg c7] at h; exact h)⟩⟩⟩⟩, fun c3 => (by unfold m_35 at h; rw [if_neg c0, if_pos c1, if_neg c2, if_neg c3] at h; exact h)⟩⟩, fun c1 => (by unfold m_35 at h; rw [if_neg c0, if_neg c1] at h; exact h)⟩⟩
set_option maxRecDepth 100000 in
theorem w_36 {t : Int} {d : Nat} {a1 a2 : Int} {v : Mem} {Q : Int → Mem → Prop} (h : (RR t d 49 [(0, a1)] v (fun x1 v1 => ((x1 = 0 → Q 0 v1) ∧ (¬ x1 = 0 → ((0 ≤ a1 ∧ a1 < 4000) ∧ (((v1 18 (Int.toNat a1)) = 0 → Q 0 (up v1 15 10 (w32 ((v1 15 10) + a2)))) ∧ (¬ (v1 18 (Int.toNat a1)) = 0 → Q 0 v1)))))))) : RR t (d + 1) 36 [(2, 15), (0, a1), (0, a2)] v Q := wp_sound (K := k_36) (cut := []) (f := 18) (cb := false) rfl h
set_option maxRecDepth 100000 in
theorem s_36 {t : Int} {d : Nat} {a1 a2 : Int} {v : Mem} {Q : Int → Mem → Prop} (h : ((a1 < 0 → Q 0 v) ∧ (¬ a1 < 0 → ((a1 < 4000 → (((v 18 (Int.toNat a1)) = 0 → Q 0 (up v 15 10 (w32 ((v 15 10) + a2)))) ∧ (¬ (v 18 (Int.toNat a1)) = 0 → Q 0 v))) ∧ (¬ a1 < 4000 → Q 0 v))))) : RR t (d + 1) 36 [(2, 15), (0, a1), (0, a2)] v Q := w_36 (s_49 ⟨fun c1 => ⟨fun _ => (h.1 c1), fun c => absurd (by decide) c⟩, fun c1 => ⟨fun c2 => ⟨fun c => absurd c (by decide), fun _ => ⟨⟨by omega, by omega⟩, ⟨fun c3 => (((h.2 c1).1 c2).1 c3), fun c3 => (((h.2 c1).1 c2).2 c3)⟩⟩⟩, fun c2 => ⟨fun _ => ((h.2 c1).2 c2), fun c => absurd (by decide) c⟩⟩⟩)
def m_36 (a1 : Int) (a2 : Int) (v : Mem) : Mem := if a1 < 0 then v else if a1 < 4000 then if (v 18 (Int.toNat a1)) = 0 then (up v 15 10 (w32 ((v 15 10) + a2))) else v else v
set_option maxRecDepth 100000 in
theorem p_36 {t : Int} {d : Nat} {a1 a2 : Int} {v : Mem} {Q : Int → Mem → Prop} (h : Q 0 (m_36 a1 a2 v)) : RR t (d + 1) 36 [(2, 15), (0, a1), (0, a2)] v Q := s_36 ⟨fun c0 => (by unfold m_36 at h; rw [if_pos c0] at h; exact h), fun c0 => ⟨fun c1 => ⟨fun c2 => (by unfold m_36 at h; rw [if_neg c0, if_pos c1, if_pos c2] at h; exact h), fun c2 => (by unfold m_36 at h; rw [if_neg c0, if_pos c1, if_neg c2] at h; exact h)⟩, fun c1 => (by unfold m_36 at h; rw [if_neg c0, if_neg c1] at h; exact h)⟩⟩
set_option maxRecDepth 100000 in
theorem w_37 {t : Int} {d : Nat} {v : Mem} {Q : Int → Mem → Prop} (h : (((v 15 12) = 0 ∨ (v 15 12) = 1) ∧ Q (v 15 12) v)) : RR t d 37 [(2, 15)] v Q := wp_sound (K := k_37) (cut := []) (f := 6) (cb := false) rfl h
set_option maxRecDepth 100000 in
theorem w_38 {t : Int} {d : Nat} {v : Mem} {Q : Int → Mem → Prop} (h : (((0 : Int) = 0 ∨ (0 : Int) = 1) ∧ Q 0 (up (up v 15 11 (w32 ((v 15 11) + 1))) 15 12 0))) : RR t d 38 [(2, 15)] v Q := wp_sound (K := k_38) (cut := []) (f := 13) (cb := false) rfl h
set_option maxRecDepth 100000 in
theorem s_38 {t : Int} {d : Nat} {v : Mem} {Q : Int → Mem → Prop} (h : Q 0 (up (up v 15 11 (w32 ((v 15 11) + 1))) 15 12 0)) : RR t d 38 [(2, 15)] v Q := w_38 ⟨Or.inl rfl, h⟩
set_option maxRecDepth 100000 in
theorem w_39 {t : Int} {d : Nat} {a1 : Int} {v : Mem} {Q : Int → Mem → Prop} (h : (RR t d 49 [(0, a1)] v (fun x1 v1 => ((x1 = 0 → Q 0 v1) ∧ (¬ x1 = 0 → ((0 ≤ a1 ∧ a1 < 4000) ∧ Q 0 (up v1 21 (Int.toNat a1) (v1 15 11)))))))) : RR t (d + 1) 39 [(2, 15), (0, a1)] v Q := wp_sound (K := k_39) (cut := []) (f := 13) (cb := false) rfl h
set_option maxRecDepth 100000 in
theorem s_39 {t : Int} {d : Nat} {a1 : Int} {v : Mem} {Q : Int → Mem → Prop} (h : ((a1 < 0 → Q 0 v) ∧ (¬ a1 < 0 → ((a1 < 4000 → Q 0 (up v 21 (Int.toNat a1) (v 15 11))) ∧ (¬ a1 < 4000 → Q 0 v))))) : RR t (d + 1) 39 [(2, 15), (0, a1)] v Q := w_39 (s_49 ⟨fun c1 => ⟨fun _ => (h.1 c1), fun c => absurd (by decide) c⟩, fun c1 => ⟨fun c2 => ⟨fun c => absurd c (by decide), fun _ => ⟨⟨by omega, by omega⟩, ((h.2 c1).1 c2)⟩⟩, fun c2 => ⟨fun _ => ((h.2 c1).2 c2), fun c => absurd (by decide) c⟩⟩⟩)
def m_39 (a1 : Int) (v : Mem) : Mem := if a1 < 0 then v else if a1 < 4000 then (up v 21 (Int.toNat a1) (v 15 11)) else v
set_option maxRecDepth 100000 in
theorem p_39 {t : Int} {d : Nat} {a1 : Int} {v : Mem} {Q : Int → Mem → Prop} (h : Q 0 (m_39 a1 v)) : RR t (d + 1) 39 [(2, 15), (0, a1)] v Q := s_39 ⟨fun c0 => (by unfold m_39 at h; rw [if_pos c0] at h; exact h), fun c0 => ⟨fun c1 => (by unfold m_39 at h; rw [if_neg c0, if_pos c1] at h; exact h), fun c1 => (by unfold m_39 at h; rw [if_neg c0, if_neg c1] at h; exact h)⟩⟩
set_option maxRecDepth 100000 in
theorem w_40 {t : Int} {d : Nat} {v : Mem} {Q : Int → Mem → Prop} (h : ((0 ≤ (4000 : Int) ∧ (4000 : Int) < 4001) ∧ LL t d 40 11 [(2, 15), (0, (v 16 4000)), (0, 0)] [] v Q)) : RR t d 40 [(2, 15)] v Q := wp_sound (K := k_40) (cut := [(11, [])]) (f := 37) (cb := false) rfl h
set_option maxRecDepth 100000 in
theorem s_40 {t : Int} {d : Nat} {v : Mem} {Q : Int → Mem → Prop} (h : LL t d 40 11 [(2, 15), (0, (v 16 4000)), (0, 0)] [] v Q) : RR t d 40 [(2, 15)] v Q := w_40 ⟨⟨by decide, by decide⟩, h⟩
set_option maxRecDepth 100000 in
theorem w_40_11 {t : Int} {d : Nat} {l1 l2 : Int} {v : Mem} {Q : Int → Mem → Prop} (h : ((l2 < 4000 → (RR t d 49 [(0, l1)] v (fun x1 v1 => ((x1 = 0 → Q 0 v1) ∧ (¬ x1 = 0 → ((0 ≤ l1 ∧ l1 < 4000) ∧ (((v1 21 (Int.toNat l1)) = (v1 15 11) → ((0 ≤ l1 ∧ l1 < 4001) ∧ LL t (d + 1) 40 11 [(2, 15), (0, (v1 16 (Int.toNat l1))), (0, (w32 (l2 + 1)))] [] v1 Q)) ∧ (¬ (v1 21 (Int.toNat l1)) = (v1 15 11) → ((0 ≤ l1 ∧ l1 < 4001) ∧ LL t (d + 1) 40 11 [(2, 15), (0, (v1 16 (Int.toNat l1))), (0, (w32 (l2 + 1)))] [] (up v1 15 10 (w32 ((v1 15 10) + 1))) Q))))))))) ∧ (¬ l2 < 4000 → Q 0 v))) : LL t (d + 1) 40 11 [(2, 15), (0, l1), (0, l2)] [] v Q := wp_sound (K := k_40) (cut := [(11, [])]) (f := 37) (cb := false) rfl h
set_option maxRecDepth 100000 in
theorem s_40_11 {t : Int} {d : Nat} {l1 l2 : Int} {v : Mem} {Q : Int → Mem → Prop} (h : ((l2 < 4000 → ((l1 < 0 → Q 0 v) ∧ (¬ l1 < 0 → ((l1 < 4000 → (((v 21 (Int.toNat l1)) = (v 15 11) → LL t (d + 1) 40 11 [(2, 15), (0, (v 16 (Int.toNat l1))), (0, (w32 (l2 + 1)))] [] v Q) ∧ (¬ (v 21 (Int.toNat l1)) = (v 15 11) → LL t (d + 1) 40 11 [(2, 15), (0, (v 16 (Int.toNat l1))), (0, (w32 (l2 + 1)))] [] (up v 15 10 (w32 ((v 15 10) + 1))) Q))) ∧ (¬ l1 < 4000 → Q 0 v))))) ∧ (¬ l2 < 4000 → Q 0 v))) : LL t (d + 1) 40 11 [(2, 15), (0, l1), (0, l2)] [] v Q := w_40_11 ⟨fun c1 => s_49 ⟨fun c2 => ⟨fun _ => ((h.1 c1).1 c2), fun c => absurd (by decide) c⟩, fun c2 => ⟨fun c3 => ⟨fun c => absurd c (by decide), fun _ => ⟨⟨by omega, by omega⟩, ⟨fun c4 => ⟨⟨by omega, by omega⟩, ((((h.1 c1).2 c2).1 c3).1 c4)⟩, fun c4 => ⟨⟨by omega, by omega⟩, ((((h.1 c1).2 c2).1 c3).2 c4)⟩⟩⟩⟩, fun c3 => ⟨fun _ => (((h.1 c1).2 c2).2 c3), fun c => absurd (by decide) c⟩⟩⟩, fun c1 => (h.2 c1)⟩
set_option maxRecDepth 100000 in
theorem w_41 {t : Int} {d : Nat} {v : Mem} {Q : Int → Mem → Prop} (h : Q (v 15 6) v) : RR t d 41 [(2, 15)] v Q := wp_sound (K := k_41) (cut := []) (f := 6) (cb := false) rfl h
set_option maxRecDepth 100000 in
theorem w_42 {t : Int} {d : Nat} {v : Mem} {Q : Int → Mem → Prop} (h : Q (v 15 7) v) : RR t d 42 [(2, 15)] v Q := wp_sound (K := k_42) (cut := []) (f := 6) (cb := false) rfl h
set_option maxRecDepth 100000 in
theorem w_43 {t : Int} {d : Nat} {v : Mem} {Q : Int → Mem → Prop} (h : Q (v 15 9) v) : RR t d 43 [(2, 15)] v Q := wp_sound (K := k_43) (cut := []) (f := 6) (cb := false) rfl h
set_option maxRecDepth 100000 in
theorem w_44 {t : Int} {d : Nat} {v : Mem} {Q : Int → Mem → Prop} (h : Q (v 15 8) v) : RR t d 44 [(2, 15)] v Q := wp_sound (K := k_44) (cut := []) (f := 6) (cb := false) rfl h
set_option maxRecDepth 100000 in
theorem w_45 {t : Int} {d : Nat} {v : Mem} {Q : Int → Mem → Prop} (h : Q (v 15 10) v) : RR t d 45 [(2, 15)] v Q := wp_sound (K := k_45) (cut := []) (f := 6) (cb := false) rfl h
set_option maxRecDepth 100000 in
theorem w_46 {t : Int} {d : Nat} {v : Mem} {Q : Int → Mem → Prop} (h : ((0 ≤ (4000 : Int) ∧ (4000 : Int) < 4001) ∧ LL t d 46 16 [(2, 15), (0, 0), (0, 0), (0, (v 16 4000)), (0, 0)] [] v Q)) : RR t d 46 [(2, 15)] v Q := wp_sound (K := k_46) (cut := [(16, [])]) (f := 48) (cb := false) rfl h
set_option maxRecDepth 100000 in
theorem s_46 {t : Int} {d : Nat} {v : Mem} {Q : Int → Mem → Prop} (h : LL t d 46 16 [(2, 15), (0, 0), (0, 0), (0, (v 16 4000)), (0, 0)] [] v Q) : RR t d 46 [(2, 15)] v Q := w_46 ⟨⟨by decide, by decide⟩, h⟩
set_option maxRecDepth 100000 in
theorem w_46_16 {t : Int} {d : Nat} {l1 l2 l3 l4 : Int} {v : Mem} {Q : Int → Mem → Prop} (h : ((l4 < 4000 → (RR t d 49 [(0, l3)] v (fun x1 v1 => ((x1 = 0 → ((l2 < (v1 15 6) → Q (w32 (l1 + 1)) v1) ∧ (¬ l2 < (v1 15 6) → Q l1 v1))) ∧ (¬ x1 = 0 → ((l2 < l3 → ((0 ≤ l3 ∧ l3 < 4000) ∧ ((0 ≤ l3 ∧ l3 < 4001) ∧ LL t (d + 1) 46 16 [(2, 15), (0, (w32 (l1 + 1))), (0, (w32 (l3 + (v1 18 (Int.toNat l3))))), (0, (v1 16 (Int.toNat l3))), (0, (w32 (l4 + 1)))] [] v1 Q))) ∧ (¬ l2 < l3 → ((0 ≤ l3 ∧ l3 < 4000) ∧ ((0 ≤ l3 ∧ l3 < 4001) ∧ LL t (d + 1) 46 16 [(2, 15), (0, l1), (0, (w32 (l3 + (v1 18 (Int.toNat l3))))), (0, (v1 16 (Int.toNat l3))), (0, (w32 (l4 + 1)))] [] v1 Q))))))))) ∧ (¬ l4 < 4000 → ((l2 < (v 15 6) → Q (w32 (l1 + 1)) v) ∧ (¬ l2 < (v 15 6) → Q l1 v))))) : LL t (d + 1) 46 16 [(2, 15), (0, l1), (0, l2), (0, l3), (0, l4)] [] v Q := wp_sound (K := k_46) (cut := [(16, [])]) (f := 48) (cb := false) rfl h
set_option maxRecDepth 100000 in
theorem s_46_16 {t : Int} {d : Nat} {l1 l2 l3 l4 : Int} {v : Mem} {Q : Int → Mem → Prop} (h : ((l4 < 4000 → ((l3 < 0 → ((l2 < (v 15 6) → Q (w32 (l1 + 1)) v) ∧ (¬ l2 < (v 15 6) → Q l1 v))) ∧ (¬ l3 < 0 → ((l3 < 4000 → ((l2 < l3 → LL t (d + 1) 46 16 [(2, 15), (0, (w32 (l1 + 1))), (0, (w32 (l3 + (v 18 (Int.toNat l3))))), (0, (v 16 (Int.toNat l3))), (0, (w32 (l4 + 1)))] [] v Q) ∧ (¬ l2 < l3 → LL t (d + 1) 46 16 [(2, 15), (0, l1), (0, (w32 (l3 + (v 18 (Int.toNat l3))))), (0, (v 16 (Int.toNat l3))), (0, (w32 (l4 + 1)))] [] v Q))) ∧ (¬ l3 < 4000 → ((l2 < (v 15 6) → Q (w32 (l1 + 1)) v) ∧ (¬ l2 < (v 15 6) → Q l1 v))))))) ∧ (¬ l4 < 4000 → ((l2 < (v 15 6) → Q (w32 (l1 + 1)) v) ∧ (¬ l2 < (v 15 6) → Q l1 v))))) : LL t (d + 1) 46 16 [(2, 15), (0, l1), (0, l2), (0, l3), (0, l4)] [] v Q := w_46_16 ⟨fun c1 => s_49 ⟨fun c2 => ⟨fun _ => ⟨fun c3 => (((h.1 c1).1 c2).1 c3), fun c3 => (((h.1 c1).1 c2).2 c3)⟩, fun c => absurd (by decide) c⟩, fun c2 => ⟨fun c4 => ⟨fun c => absurd c (by decide), fun _ => ⟨fun c5 => ⟨⟨by omega, by omega⟩, ⟨⟨by omega, by omega⟩, ((((h.1 c1).2 c2).1 c4).1 c5)⟩⟩, fun c5 => ⟨⟨by omega, by omega⟩, ⟨⟨by omega, by omega⟩, ((((h.1 c1).2 c2).1 c4).2 c5)⟩⟩⟩⟩, fun c4 => ⟨fun _ => ⟨fun c6 => ((((h.1 c1).2 c2).2 c4).1 c6), fun c6 => ((((h.1 c1).2 c2).2 c4).2 c6)⟩, fun c => absurd (by decide) c⟩⟩⟩, fun c1 => ⟨fun c7 => ((h.2 c1).1 c7), fun c7 => ((h.2 c1).2 c7)⟩⟩
set_option maxRecDepth 100000 in
theorem w_47 {t : Int} {d : Nat} {v : Mem} {Q : Int → Mem → Prop} (h : ((0 ≤ (4000 : Int) ∧ (4000 : Int) < 4001) ∧ LL t d 47 16 [(2, 15), (0, 0), (0, 0), (0, (v 16 4000)), (0, 0)] [] v Q)) : RR t d 47 [(2, 15)] v Q := wp_sound (K := k_47) (cut := [(16, [])]) (f := 47) (cb := false) rfl h
set_option maxRecDepth 100000 in
theorem s_47 {t : Int} {d : Nat} {v : Mem} {Q : Int → Mem → Prop} (h : LL t d 47 16 [(2, 15), (0, 0), (0, 0), (0, (v 16 4000)), (0, 0)] [] v Q) : RR t d 47 [(2, 15)] v Q := w_47 ⟨⟨by decide, by decide⟩, h⟩
set_option maxRecDepth 100000 in
theorem w_47_16 {t : Int} {d : Nat} {l1 l2 l3 l4 : Int} {v : Mem} {Q : Int → Mem → Prop} (h : ((l4 < 4000 → (RR t d 49 [(0, l3)] v (fun x2 v2 => ((x2 = 0 → (RR t d 275 [(0, l1), (0, (w32 ((v2 15 6) - l2)))] v2 (fun x3 v3 => Q x3 v3))) ∧ (¬ x2 = 0 → (RR t d 275 [(0, l1), (0, (w32 (l3 - l2)))] v2 (fun x4 v4 => ((0 ≤ l3 ∧ l3 < 4000) ∧ ((0 ≤ l3 ∧ l3 < 4001) ∧ LL t (d + 1) 47 16 [(2, 15), (0, x4), (0, (w32 (l3 + (v4 18 (Int.toNat l3))))), (0, (v4 16 (Int.toNat l3))), (0, (w32 (l4 + 1)))] [] v4 Q))))))))) ∧ (¬ l4 < 4000 → (RR t d 275 [(0, l1), (0, (w32 ((v 15 6) - l2)))] v (fun x1 v1 => Q x1 v1))))) : LL t (d + 1) 47 16 [(2, 15), (0, l1), (0, l2), (0, l3), (0, l4)] [] v Q := wp_sound (K := k_47) (cut := [(16, [])]) (f := 47) (cb := false) rfl h
set_option maxRecDepth 100000 in
theorem s_47_16 {t : Int} {d : Nat} {l1 l2 l3 l4 : Int} {v : Mem} {Q : Int → Mem → Prop} (h : ((l4 < 4000 → ((l3 < 0 → Q (f_275 l1 (w32 ((v 15 6) - l2)) v) v) ∧ (¬ l3 < 0 → ((l3 < 4000 → LL t (d + 1) 47 16 [(2, 15), (0, (f_275 l1 (w32 (l3 - l2)) v)), (0, (w32 (l3 + (v 18 (Int.toNat l3))))), (0, (v 16 (Int.toNat l3))), (0, (w32 (l4 + 1)))] [] v Q) ∧ (¬ l3 < 4000 → Q (f_275 l1 (w32 ((v 15 6) - l2)) v) v))))) ∧ (¬ l4 < 4000 → Q (f_275 l1 (w32 ((v 15 6) - l2)) v) v))) : LL t (d + 1) 47 16 [(2, 15), (0, l1), (0, l2), (0, l3), (0, l4)] [] v Q := w_47_16 ⟨fun c1 => s_49 ⟨fun c2 => ⟨fun _ => p_275 ((h.1 c1).1 c2), fun c => absurd (by decide) c⟩, fun c2 => ⟨fun c3 => ⟨fun c => absurd c (by decide), fun _ => p_275 ⟨⟨by omega, by omega⟩, ⟨⟨by omega, by omega⟩, (((h.1 c1).2 c2).1 c3)⟩⟩⟩, fun c3 => ⟨fun _ => p_275 (((h.1 c1).2 c2).2 c3), fun c => absurd (by decide) c⟩⟩⟩, fun c1 => p_275 (h.2 c1)⟩
set_option maxRecDepth 100000 in
theorem w_48 {t : Int} {d : Nat} {a1 : Int} {v : Mem} {Q : Int → Mem → Prop} (h : ((0 ≤ (4000 : Int) ∧ (4000 : Int) < 4001) ∧ LL t d 48 11 [(2, 15), (0, a1), (0, (v 16 4000)), (0, 0)] [] v Q)) : RR t d 48 [(2, 15), (0, a1)] v Q := wp_sound (K := k_48) (cut := [(11, [])]) (f := 41) (cb := false) rfl h
set_option maxRecDepth 100000 in
theorem s_48 {t : Int} {d : Nat} {a1 : Int} {v : Mem} {Q : Int → Mem → Prop} (h : LL t d 48 11 [(2, 15), (0, a1), (0, (v 16 4000)), (0, 0)] [] v Q) : RR t d 48 [(2, 15), (0, a1)] v Q := w_48 ⟨⟨by decide, by decide⟩, h⟩
set_option maxRecDepth 100000 in
theorem w_48_11 {t : Int} {d : Nat} {l1 l2 l3 : Int} {v : Mem} {Q : Int → Mem → Prop} (h : ((l3 < 4000 → (RR t d 49 [(0, l2)] v (fun x1 v1 => ((x1 = 0 → Q (-1) v1) ∧ (¬ x1 = 0 → ((l1 < l2 → Q (-1) v1) ∧ (¬ l1 < l2 → ((0 ≤ l2 ∧ l2 < 4000) ∧ ((l1 < (w32 (l2 + (v1 18 (Int.toNat l2)))) → ((0 ≤ l2 ∧ l2 < 4000) ∧ Q (v1 20 (Int.toNat l2)) v1)) ∧ (¬ l1 < (w32 (l2 + (v1 18 (Int.toNat l2)))) → ((0 ≤ l2 ∧ l2 < 4001) ∧ LL t (d + 1) 48 11 [(2, 15), (0, l1), (0, (v1 16 (Int.toNat l2))), (0, (w32 (l3 + 1)))] [] v1 Q))))))))))) ∧ (¬ l3 < 4000 → Q (-1) v))) : LL t (d + 1) 48 11 [(2, 15), (0, l1), (0, l2), (0, l3)] [] v Q := wp_sound (K := k_48) (cut := [(11, [])]) (f := 41) (cb := false) rfl h
set_option maxRecDepth 100000 in
theorem s_48_11 {t : Int} {d : Nat} {l1 l2 l3 : Int} {v : Mem} {Q : Int → Mem → Prop} (h : ((l3 < 4000 → ((l2 < 0 → Q (-1) v) ∧ (¬ l2 < 0 → ((l2 < 4000 → ((l1 < l2 → Q (-1) v) ∧ (¬ l1 < l2 → ((l1 < (w32 (l2 + (v 18 (Int.toNat l2)))) → Q (v 20 (Int.toNat l2)) v) ∧ (¬ l1 < (w32 (l2 + (v 18 (Int.toNat l2)))) → LL t (d + 1) 48 11 [(2, 15), (0, l1), (0, (v 16 (Int.toNat l2))), (0, (w32 (l3 + 1)))] [] v Q))))) ∧ (¬ l2 < 4000 → Q (-1) v))))) ∧ (¬ l3 < 4000 → Q (-1) v))) : LL t (d + 1) 48 11 [(2, 15), (0, l1), (0, l2), (0, l3)] [] v Q := w_48_11 ⟨fun c1 => s_49 ⟨fun c2 => ⟨fun _ => ((h.1 c1).1 c2), fun c => absurd (by decide) c⟩, fun c2 => ⟨fun c3 => ⟨fun c => absurd c (by decide), fun _ => ⟨fun c4 => ((((h.1 c1).2 c2).1 c3).1 c4), fun c4 => ⟨⟨by omega, by omega⟩, ⟨fun c5 => ⟨⟨by omega, by omega⟩, (((((h.1 c1).2 c2).1 c3).2 c4).1 c5)⟩, fun c5 => ⟨⟨by omega, by omega⟩, (((((h.1 c1).2 c2).1 c3).2 c4).2 c5)⟩⟩⟩⟩⟩, fun c3 => ⟨fun _ => (((h.1 c1).2 c2).2 c3), fun c => absurd (by decide) c⟩⟩⟩, fun c1 => (h.2 c1)⟩
set_option maxRecDepth 100000 in
theorem w_128 {t : Int} {d : Nat} {v : Mem} {Q : Int → Mem → Prop} (h : Q 0 (up (up v 28 2 0) 28 3 0)) : RR t d 128 [(2, 28)] v Q := wp_sound (K := k_128) (cut := []) (f := 10) (cb := false) rfl h
set_option maxRecDepth 100000 in
theorem w_131 {t : Int} {d : Nat} {a1 : Int} {v : Mem} {Q : Int → Mem → Prop} (h : LL t d 131 2 [(2, 28), (1, a1), (3, 0), (0, 0)] [] v Q) : RR t d 131 [(2, 28), (1, a1)] v Q := wp_sound (K := k_131) (cut := [(2, [2])]) (f := 25) (cb := false) rfl h
set_option maxRecDepth 100000 in
theorem w_131_2 {t : Int} {d : Nat} {l1 l3 : Int} {v : Mem} {Q : Int → Mem → Prop} (h : ((l3 < (v 28 2) → ((l3 < 30 → ((0 ≤ l3 ∧ l3 < 30) ∧ (((lcm3 (v 29 (Int.toNat l3)) l1) = 0 → Q l3 v) ∧ (¬ (lcm3 (v 29 (Int.toNat l3)) l1) = 0 → LL t d 131 2 [(2, 28), (1, l1), (3, 0), (0, (w32 (l3 + 1)))] [] v Q)))) ∧ (¬ l3 < 30 → Q (-1) v))) ∧ (¬ l3 < (v 28 2) → Q (-1) v))) : LL t d 131 2 [(2, 28), (1, l1), (3, 0), (0, l3)] [] v Q := wp_sound (K := k_131) (cut := [(2, [2])]) (f := 25) (cb := false) rfl h
set_option maxRecDepth 100000 in
theorem w_130 {t : Int} {d : Nat} {a1 a2 : Int} {v : Mem} {Q : Int → Mem → Prop} (h : (((v 28 2) < 0 → Q 0 v) ∧ (¬ (v 28 2) < 0 → (((v 28 2) < 30 → ((0 ≤ (v 28 2) ∧ (v 28 2) < 30) ∧ ((0 ≤ (v 28 2) ∧ (v 28 2) < 30) ∧ (RR t d 275 [(0, (v 28 3)), (0, (w32 ((v 28 2) + 1)))] (up (up (up v 29 (Int.toNat (v 28 2)) a1) 30 (Int.toNat (v 28 2)) a2) 28 2 (w32 ((v 28 2) + 1))) (fun x1 v1 => Q 0 (up v1 28 3 x1)))))) ∧ (¬ (v 28 2) < 30 → Q 0 v))))) : RR t (d + 1) 130 [(2, 28), (1, a1), (0, a2)] v Q := wp_sound (K := k_130) (cut := []) (f := 36) (cb := false) rfl h
set_option maxRecDepth 100000 in
theorem s_130 {t : Int} {d : Nat} {a1 a2 : Int} {v : Mem} {Q : Int → Mem → Prop} (h : (((v 28 2) < 0 → Q 0 v) ∧ (¬ (v 28 2) < 0 → (((v 28 2) < 30 → Q 0 (up (up (up (up v 29 (Int.toNat (v 28 2)) a1) 30 (Int.toNat (v 28 2)) a2) 28 2 (w32 ((v 28 2) + 1))) 28 3 (f_275 (v 28 3) (w32 ((v 28 2) + 1)) (up (up (up v 29 (Int.toNat (v 28 2)) a1) 30 (Int.toNat (v 28 2)) a2) 28 2 (w32 ((v 28 2) + 1)))))) ∧ (¬ (v 28 2) < 30 → Q 0 v))))) : RR t (d + 1) 130 [(2, 28), (1, a1), (0, a2)] v Q := w_130 ⟨fun c1 => (h.1 c1), fun c1 => ⟨fun c2 => ⟨⟨by omega, by omega⟩, ⟨⟨by omega, by omega⟩, p_275 ((h.2 c1).1 c2)⟩⟩, fun c2 => ((h.2 c1).2 c2)⟩⟩
def m_130 (a1 : Int) (a2 : Int) (v : Mem) : Mem := if (v 28 2) < 0 then v else if (v 28 2) < 30 then (up (up (up (up v 29 (Int.toNat (v 28 2)) a1) 30 (Int.toNat (v 28 2)) a2) 28 2 (w32 ((v 28 2) + 1))) 28 3 (f_275 (v 28 3) (w32 ((v 28 2) + 1)) (up (up (up v 29 (Int.toNat (v 28 2)) a1) 30 (Int.toNat (v 28 2)) a2) 28 2 (w32 ((v 28 2) + 1))))) else v
set_option maxRecDepth 100000 in
theorem p_130 {t : Int} {d : Nat} {a1 a2 : Int} {v : Mem} {Q : Int → Mem → Prop} (h : Q 0 (m_130 a1 a2 v)) : RR t (d + 1) 130 [(2, 28), (1, a1), (0, a2)] v Q := s_130 ⟨fun c0 => (by unfold m_130 at h; rw [if_pos c0] at h; exact h), fun c0 => ⟨fun c1 => (by unfold m_130 at h; rw [if_neg c0, if_pos c1] at h; exact h), fun c1 => (by unfold m_130 at h; rw [if_neg c0, if_neg c1] at h; exact h)⟩⟩
set_option maxRecDepth 100000 in
theorem w_133 {t : Int} {d : Nat} {v : Mem} {Q : Int → Mem → Prop} (h : Q (v 28 2) v) : RR t d 133 [(2, 28)] v Q := wp_sound (K := k_133) (cut := []) (f := 6) (cb := false) rfl h
set_option maxRecDepth 100000 in
theorem w_129 {t : Int} {d : Nat} {v : Mem} {Q : Int → Mem → Prop} (h : (((v 28 2) < 30 → (((0 : Int) = 0 ∨ (0 : Int) = 1) ∧ Q 0 v)) ∧ (¬ (v 28 2) < 30 → (((1 : Int) = 0 ∨ (1 : Int) = 1) ∧ Q 1 v)))) : RR t d 129 [(2, 28)] v Q := wp_sound (K := k_129) (cut := []) (f := 11) (cb := false) rfl h
set_option maxRecDepth 100000 in
theorem s_129 {t : Int} {d : Nat} {v : Mem} {Q : Int → Mem → Prop} (h : (((v 28 2) < 30 → Q 0 v) ∧ (¬ (v 28 2) < 30 → Q 1 v))) : RR t d 129 [(2, 28)] v Q := w_129 ⟨fun c1 => ⟨Or.inl rfl, (h.1 c1)⟩, fun c1 => ⟨Or.inr rfl, (h.2 c1)⟩⟩
set_option maxRecDepth 100000 in
theorem w_132 {t : Int} {d : Nat} {a1 : Int} {v : Mem} {Q : Int → Mem → Prop} (h : ((a1 < 0 → Q 0 v) ∧ (¬ a1 < 0 → ((a1 < (v 28 2) → ((a1 < 30 → ((0 ≤ a1 ∧ a1 < 30) ∧ Q (v 30 (Int.toNat a1)) v)) ∧ (¬ a1 < 30 → Q 0 v))) ∧ (¬ a1 < (v 28 2) → Q 0 v))))) : RR t d 132 [(2, 28), (0, a1)] v Q := wp_sound (K := k_132) (cut := []) (f := 19) (cb := false) rfl h
set_option maxRecDepth 100000 in
theorem s_132 {t : Int} {d : Nat} {a1 : Int} {v : Mem} {Q : Int → Mem → Prop} (h : ((a1 < 0 → Q 0 v) ∧ (¬ a1 < 0 → ((a1 < (v 28 2) → ((a1 < 30 → Q (v 30 (Int.toNat a1)) v) ∧ (¬ a1 < 30 → Q 0 v))) ∧ (¬ a1 < (v 28 2) → Q 0 v))))) : RR t d 132 [(2, 28), (0, a1)] v Q := w_132 ⟨fun c1 => (h.1 c1), fun c1 => ⟨fun c2 => ⟨fun c3 => ⟨⟨by omega, by omega⟩, (((h.2 c1).1 c2).1 c3)⟩, fun c3 => (((h.2 c1).1 c2).2 c3)⟩, fun c2 => ((h.2 c1).2 c2)⟩⟩
def f_132 (a1 : Int) (v : Mem) : Int := if a1 < 0 then 0 else if a1 < (v 28 2) then if a1 < 30 then (v 30 (Int.toNat a1)) else 0 else 0
set_option maxRecDepth 100000 in
theorem p_132 {t : Int} {d : Nat} {a1 : Int} {v : Mem} {Q : Int → Mem → Prop} (h : Q (f_132 a1 v) v) : RR t d 132 [(2, 28), (0, a1)] v Q := s_132 ⟨fun c0 => (by unfold f_132 at h; rw [if_pos c0] at h; exact h), fun c0 => ⟨fun c1 => ⟨fun c2 => (by unfold f_132 at h; rw [if_neg c0, if_pos c1, if_pos c2] at h; exact h), fun c2 => (by unfold f_132 at h; rw [if_neg c0, if_pos c1, if_neg c2] at h; exact h)⟩, fun c1 => (by unfold f_132 at h; rw [if_neg c0, if_neg c1] at h; exact h)⟩⟩
set_option maxRecDepth 100000 in
theorem w_135 {t : Int} {d : Nat} {a1 : Int} {v : Mem} {Q : Int → Mem → Prop} (h : (RR t d 276 [(0, a1), (0, (v 28 2))] v (fun x1 v1 => (RR t d 275 [(0, 0), (0, x1)] v1 (fun x2 v2 => Q 0 (up v2 28 2 x2)))))) : RR t (d + 1) 135 [(2, 28), (0, a1)] v Q := wp_sound (K := k_135) (cut := []) (f := 12) (cb := false) rfl h
set_option maxRecDepth 100000 in
theorem s_135 {t : Int} {d : Nat} {a1 : Int} {v : Mem} {Q : Int → Mem → Prop} (h : Q 0 (up v 28 2 (f_275 0 (f_276 a1 (v 28 2) v) v))) : RR t (d + 1) 135 [(2, 28), (0, a1)] v Q := w_135 (p_276 (p_275 h))
set_option maxRecDepth 100000 in
theorem w_134 {t : Int} {d : Nat} {v : Mem} {Q : Int → Mem → Prop} (h : Q (v 28 3) v) : RR t d 134 [(2, 28)] v Q := wp_sound (K := k_134) (cut := []) (f := 6) (cb := false) rfl h
set_option maxRecDepth 100000 in
theorem w_137 {t : Int} {d : Nat} {v : Mem} {Q : Int → Mem → Prop} (h : Q 0 (up v 32 4 0)) : RR t d 137 [(2, 32)] v Q := wp_sound (K := k_137) (cut := []) (f := 7) (cb := false) rfl h
set_option maxRecDepth 100000 in
theorem w_138 {t : Int} {d : Nat} {v : Mem} {Q : Int → Mem → Prop} (h : Q (v 32 4) v) : RR t d 138 [(2, 32)] v Q := wp_sound (K := k_138) (cut := []) (f := 6) (cb := false) rfl h
set_option maxRecDepth 100000 in
theorem w_142 {t : Int} {d : Nat} {a1 a2 a3 : Int} {v : Mem} {Q : Int → Mem → Prop} (h : (((v 32 4) < 0 → Q 0 v) ∧ (¬ (v 32 4) < 0 → (((v 32 4) < 1440 → (RR t d 34 [(2, 15), (0, a1)] v (fun x1 v1 => ((0 ≤ (v1 32 4) ∧ (v1 32 4) < 1440) ∧ ((0 ≤ (v1 32 4) ∧ (v1 32 4) < 1440) ∧ ((0 ≤ (v1 32 4) ∧ (v1 32 4) < 1440) ∧ Q 0 (up (up (up (up v1 33 (Int.toNat (v1 32 4)) a1) 34 (Int.toNat (v1 32 4)) a2) 35 (Int.toNat (v1 32 4)) a3) 32 4 (w32 ((v1 32 4) + 1))))))))) ∧ (¬ (v 32 4) < 1440 → Q 0 v))))) : RR t (d + 1) 142 [(2, 32), (0, a1), (0, a2), (0, a3)] v Q := wp_sound (K := k_142) (cut := []) (f := 39) (cb := false) rfl h
set_option maxRecDepth 100000 in
theorem s_142 {t : Int} {d : Nat} {a1 a2 a3 : Int} {v : Mem} {Q : Int → Mem → Prop} (h : (((v 32 4) < 0 → Q 0 v) ∧ (¬ (v 32 4) < 0 → (((v 32 4) < 1440 → ((0 ≤ (m_34 a1 v 32 4) ∧ (m_34 a1 v 32 4) < 1440) ∧ ((0 ≤ (m_34 a1 v 32 4) ∧ (m_34 a1 v 32 4) < 1440) ∧ ((0 ≤ (m_34 a1 v 32 4) ∧ (m_34 a1 v 32 4) < 1440) ∧ Q 0 (up (up (up (up (m_34 a1 v) 33 (Int.toNat (m_34 a1 v 32 4)) a1) 34 (Int.toNat (m_34 a1 v 32 4)) a2) 35 (Int.toNat (m_34 a1 v 32 4)) a3) 32 4 (w32 ((m_34 a1 v 32 4) + 1))))))) ∧ (¬ (v 32 4) < 1440 → Q 0 v))))) : RR t (d + 1) 142 [(2, 32), (0, a1), (0, a2), (0, a3)] v Q := w_142 ⟨fun c1 => (h.1 c1), fun c1 => ⟨fun c2 => p_34 ⟨((h.2 c1).1 c2).1, ⟨((h.2 c1).1 c2).2.1, ⟨((h.2 c1).1 c2).2.2.1, ((h.2 c1).1 c2).2.2.2⟩⟩⟩, fun c2 => ((h.2 c1).2 c2)⟩⟩
set_option maxRecDepth 100000 in
theorem w_148 {t : Int} {d : Nat} {a1 : Int} {v : Mem} {Q : Int → Mem → Prop} (h : LL t d 148 2 [(2, 32), (0, a1), (0, 0)] [] v Q) : RR t d 148 [(2, 32), (0, a1)] v Q := wp_sound (K := k_148) (cut := [(2, [])]) (f := 16) (cb := false) rfl h
set_option maxRecDepth 100000 in
theorem w_148_2 {t : Int} {d : Nat} {l1 l2 : Int} {v : Mem} {Q : Int → Mem → Prop} (h : ((l2 < l1 → (RR t d 142 [(2, 32), (0, (-1)), (0, 0), (0, 0)] v (fun x1 v1 => LL t (d + 1) 148 2 [(2, 32), (0, l1), (0, (w32 (l2 + 1)))] [] v1 Q))) ∧ (¬ l2 < l1 → Q 0 v))) : LL t (d + 1) 148 2 [(2, 32), (0, l1), (0, l2)] [] v Q := wp_sound (K := k_148) (cut := [(2, [])]) (f := 16) (cb := false) rfl h
set_option maxRecDepth 100000 in
theorem s_148_2 {t : Int} {d : Nat} {l1 l2 : Int} {v : Mem} {Q : Int → Mem → Prop} (h : ((l2 < l1 → (RR t d 142 [(2, 32), (0, (-1)), (0, 0), (0, 0)] v (fun x2 v2 => LL t (d + 1) 148 2 [(2, 32), (0, l1), (0, (w32 (l2 + 1)))] [] v2 Q))) ∧ (¬ l2 < l1 → Q 0 v))) : LL t (d + 1) 148 2 [(2, 32), (0, l1), (0, l2)] [] v Q := w_148_2 ⟨fun c1 => RR.imp (h.1 c1) (fun x2 v2 hx2 => hx2), fun c1 => (h.2 c1)⟩
set_option maxRecDepth 100000 in
theorem w_150 {t : Int} {d : Nat} {v : Mem} {Q : Int → Mem → Prop} (h : (RR t d 37 [(2, 15)] v (fun x1 v1 => ((x1 = 0 → Q 0 v1) ∧ (¬ x1 = 0 → (RR t d 38 [(2, 15)] v1 (fun x2 v2 => LL t (d + 1) 150 20 [(2, 32), (0, 0)] [] v2 Q))))))) : RR t (d + 1) 150 [(2, 32)] v Q := wp_sound (K := k_150) (cut := [(20, [])]) (f := 33) (cb := false) rfl h
set_option maxRecDepth 100000 in
theorem s_150 {t : Int} {d : Nat} {v : Mem} {Q : Int → Mem → Prop} (h : (((v 15 12) = 0 ∨ (v 15 12) = 1) ∧ (((v 15 12) = 0 → Q 0 v) ∧ (¬ (v 15 12) = 0 → LL t (d + 1) 150 20 [(2, 32), (0, 0)] [] (up (up v 15 11 (w32 ((v 15 11) + 1))) 15 12 0) Q)))) : RR t (d + 1) 150 [(2, 32)] v Q := w_150 (w_37 ⟨h.1, ⟨fun c1 => (h.2.1 c1), fun c1 => s_38 (h.2.2 c1)⟩⟩)
set_option maxRecDepth 100000 in
theorem w_150_20 {t : Int} {d : Nat} {l1 : Int} {v : Mem} {Q : Int → Mem → Prop} (h : ((l1 < (v 32 4) → ((l1 < 1440 → ((0 ≤ l1 ∧ l1 < 1440) ∧ (RR t d 39 [(2, 15), (0, (v 33 (Int.toNat l1)))] v (fun x3 v3 => LL t (d + 1) 150 20 [(2, 32), (0, (w32 (l1 + 1)))] [] v3 Q)))) ∧ (¬ l1 < 1440 → (RR t d 40 [(2, 15)] v (fun x2 v2 => Q 0 v2))))) ∧ (¬ l1 < (v 32 4) → (RR t d 40 [(2, 15)] v (fun x1 v1 => Q 0 v1))))) : LL t (d + 1) 150 20 [(2, 32), (0, l1)] [] v Q := wp_sound (K := k_150) (cut := [(20, [])]) (f := 33) (cb := false) rfl h
set_option maxRecDepth 100000 in
theorem s_150_20 {t : Int} {d : Nat} {l1 : Int} {v : Mem} {Q : Int → Mem → Prop} (h : ((l1 < (v 32 4) → ((l1 < 1440 → ((0 ≤ l1 ∧ l1 < 1440) ∧ LL t (d + 2) 150 20 [(2, 32), (0, (w32 (l1 + 1)))] [] (m_39 (v 33 (Int.toNat l1)) v) Q)) ∧ (¬ l1 < 1440 → (RR t (d + 1) 40 [(2, 15)] v (fun x3 v3 => Q 0 v3))))) ∧ (¬ l1 < (v 32 4) → (RR t (d + 1) 40 [(2, 15)] v (fun x4 v4 => Q 0 v4))))) : LL t (d + 2) 150 20 [(2, 32), (0, l1)] [] v Q := w_150_20 ⟨fun c1 => ⟨fun c2 => ⟨((h.1 c1).1 c2).1, p_39 (((h.1 c1).1 c2).2)⟩, fun c2 => RR.imp ((h.1 c1).2 c2) (fun x3 v3 hx3 => hx3)⟩, fun c1 => RR.imp (h.2 c1) (fun x4 v4 hx4 => hx4)⟩
set_option maxRecDepth 100000 in
theorem w_151 {t : Int} {d : Nat} {a1 : Int} {v : Mem} {Q : Int → Mem → Prop} (h : ((a1 < 0 → (((0 : Int) = 0 ∨ (0 : Int) = 1) ∧ Q 0 v)) ∧ (¬ a1 < 0 → ((a1 < (v 32 4) → ((a1 < 1440 → (((1 : Int) = 0 ∨ (1 : Int) = 1) ∧ Q 1 v)) ∧ (¬ a1 < 1440 → (((0 : Int) = 0 ∨ (0 : Int) = 1) ∧ Q 0 v)))) ∧ (¬ a1 < (v 32 4) → (((0 : Int) = 0 ∨ (0 : Int) = 1) ∧ Q 0 v)))))) : RR t d 151 [(2, 32), (0, a1)] v Q := wp_sound (K := k_151) (cut := []) (f := 16) (cb := false) rfl h
set_option maxRecDepth 100000 in
theorem s_151 {t : Int} {d : Nat} {a1 : Int} {v : Mem} {Q : Int → Mem → Prop} (h : ((a1 < 0 → Q 0 v) ∧ (¬ a1 < 0 → ((a1 < (v 32 4) → ((a1 < 1440 → Q 1 v) ∧ (¬ a1 < 1440 → Q 0 v))) ∧ (¬ a1 < (v 32 4) → Q 0 v))))) : RR t d 151 [(2, 32), (0, a1)] v Q := w_151 ⟨fun c1 => ⟨Or.inl rfl, (h.1 c1)⟩, fun c1 => ⟨fun c2 => ⟨fun c3 => ⟨Or.inr rfl, (((h.2 c1).1 c2).1 c3)⟩, fun c3 => ⟨Or.inl rfl, (((h.2 c1).1 c2).2 c3)⟩⟩, fun c2 => ⟨Or.inl rfl, ((h.2 c1).2 c2)⟩⟩⟩
set_option maxRecDepth 100000 in
theorem w_140 {t : Int} {d : Nat} {a1 : Int} {v : Mem} {Q : Int → Mem → Prop} (h : (RR t d 151 [(2, 32), (0, a1)] v (fun x1 v1 => ((x1 = 0 → Q 0 v1) ∧ (¬ x1 = 0 → ((0 ≤ a1 ∧ a1 < 1440) ∧ Q (v1 34 (Int.toNat a1)) v1)))))) : RR t (d + 1) 140 [(2, 32), (0, a1)] v Q := wp_sound (K := k_140) (cut := []) (f := 14) (cb := false) rfl h
set_option maxRecDepth 100000 in
theorem s_140 {t : Int} {d : Nat} {a1 : Int} {v : Mem} {Q : Int → Mem → Prop} (h : ((a1 < 0 → Q 0 v) ∧ (¬ a1 < 0 → ((a1 < (v 32 4) → ((a1 < 1440 → Q (v 34 (Int.toNat a1)) v) ∧ (¬ a1 < 1440 → Q 0 v))) ∧ (¬ a1 < (v 32 4) → Q 0 v))))) : RR t (d + 1) 140 [(2, 32), (0, a1)] v Q := w_140 (s_151 ⟨fun c1 => ⟨fun _ => (h.1 c1), fun c => absurd (by decide) c⟩, fun c1 => ⟨fun c2 => ⟨fun c3 => ⟨fun c => absurd c (by decide), fun _ => ⟨⟨by omega, by omega⟩, (((h.2 c1).1 c2).1 c3)⟩⟩, fun c3 => ⟨fun _ => (((h.2 c1).1 c2).2 c3), fun c => absurd (by decide) c⟩⟩, fun c2 => ⟨fun _ => ((h.2 c1).2 c2), fun c => absurd (by decide) c⟩⟩⟩)
def f_140 (a1 : Int) (v : Mem) : Int := if a1 < 0 then 0 else if a1 < (v 32 4) then if a1 < 1440 then (v 34 (Int.toNat a1)) else 0 else 0
set_option maxRecDepth 100000 in
theorem p_140 {t : Int} {d : Nat} {a1 : Int} {v : Mem} {Q : Int → Mem → Prop} (h : Q (f_140 a1 v) v) : RR t (d + 1) 140 [(2, 32), (0, a1)] v Q := s_140 ⟨fun c0 => (by unfold f_140 at h; rw [if_pos c0] at h; exact h), fun c0 => ⟨fun c1 => ⟨fun c2 => (by unfold f_140 at h; rw [if_neg c0, if_pos c1, if_pos c2] at h; exact h), fun c2 => (by unfold f_140 at h; rw [if_neg c0, if_pos c1, if_neg c2] at h; exact h)⟩, fun c1 => (by unfold f_140 at h; rw [if_neg c0, if_neg c1] at h; exact h)⟩⟩
set_option maxRecDepth 100000 in
theorem w_144 {t : Int} {d : Nat} {a1 : Int} {v : Mem} {Q : Int → Mem → Prop} (h : LL t d 144 2 [(2, 32), (0, a1), (0, 0)] [] v Q) : RR t d 144 [(2, 32), (0, a1)] v Q := wp_sound (K := k_144) (cut := [(2, [])]) (f := 32) (cb := false) rfl h
set_option maxRecDepth 100000 in
theorem w_144_2 {t : Int} {d : Nat} {l1 l2 : Int} {v : Mem} {Q : Int → Mem → Prop} (h : ((l2 < l1 → ((0 < (v 32 4) → ((1440 < (v 32 4) → Q 0 v) ∧ (¬ 1440 < (v 32 4) → ((0 ≤ (w32 ((v 32 4) - 1)) ∧ (w32 ((v 32 4) - 1)) < 1440) ∧ (RR t d 35 [(2, 15), (0, (v 33 (Int.toNat (w32 ((v 32 4) - 1)))))] (up v 32 4 (w32 ((v 32 4) - 1))) (fun x1 v1 => LL t (d + 1) 144 2 [(2, 32), (0, l1), (0, (w32 (l2 + 1)))] [] v1 Q)))))) ∧ (¬ 0 < (v 32 4) → Q 0 v))) ∧ (¬ l2 < l1 → Q 0 v))) : LL t (d + 1) 144 2 [(2, 32), (0, l1), (0, l2)] [] v Q := wp_sound (K := k_144) (cut := [(2, [])]) (f := 32) (cb := false) rfl h
set_option maxRecDepth 100000 in
theorem s_144_2 {t : Int} {d : Nat} {l1 l2 : Int} {v : Mem} {Q : Int → Mem → Prop} (h : ((l2 < l1 → ((0 < (v 32 4) → ((1440 < (v 32 4) → Q 0 v) ∧ (¬ 1440 < (v 32 4) → ((0 ≤ (w32 ((v 32 4) - 1)) ∧ (w32 ((v 32 4) - 1)) < 1440) ∧ LL t (d + 1) 144 2 [(2, 32), (0, l1), (0, (w32 (l2 + 1)))] [] (m_35 (v 33 (Int.toNat (w32 ((v 32 4) - 1)))) (up v 32 4 (w32 ((v 32 4) - 1)))) Q)))) ∧ (¬ 0 < (v 32 4) → Q 0 v))) ∧ (¬ l2 < l1 → Q 0 v))) : LL t (d + 1) 144 2 [(2, 32), (0, l1), (0, l2)] [] v Q := w_144_2 ⟨fun c1 => ⟨fun c2 => ⟨fun c3 => (((h.1 c1).1 c2).1 c3), fun c3 => ⟨(((h.1 c1).1 c2).2 c3).1, p_35 ((((h.1 c1).1 c2).2 c3).2)⟩⟩, fun c2 => ((h.1 c1).2 c2)⟩, fun c1 => (h.2 c1)⟩
set_option maxRecDepth 100000 in
theorem w_139 {t : Int} {d : Nat} {a1 : Int} {v : Mem} {Q : Int → Mem → Prop} (h : (RR t d 151 [(2, 32), (0, a1)] v (fun x1 v1 => ((x1 = 0 → Q (-1) v1) ∧ (¬ x1 = 0 → ((0 ≤ a1 ∧ a1 < 1440) ∧ Q (v1 33 (Int.toNat a1)) v1)))))) : RR t (d + 1) 139 [(2, 32), (0, a1)] v Q := wp_sound (K := k_139) (cut := []) (f := 14) (cb := false) rfl h
set_option maxRecDepth 100000 in
theorem s_139 {t : Int} {d : Nat} {a1 : Int} {v : Mem} {Q : Int → Mem → Prop} (h : ((a1 < 0 → Q (-1) v) ∧ (¬ a1 < 0 → ((a1 < (v 32 4) → ((a1 < 1440 → Q (v 33 (Int.toNat a1)) v) ∧ (¬ a1 < 1440 → Q (-1) v))) ∧ (¬ a1 < (v 32 4) → Q (-1) v))))) : RR t (d + 1) 139 [(2, 32), (0, a1)] v Q := w_139 (s_151 ⟨fun c1 => ⟨fun _ => (h.1 c1), fun c => absurd (by decide) c⟩, fun c1 => ⟨fun c2 => ⟨fun c3 => ⟨fun c => absurd c (by decide), fun _ => ⟨⟨by omega, by omega⟩, (((h.2 c1).1 c2).1 c3)⟩⟩, fun c3 => ⟨fun _ => (((h.2 c1).1 c2).2 c3), fun c => absurd (by decide) c⟩⟩, fun c2 => ⟨fun _ => ((h.2 c1).2 c2), fun c => absurd (by decide) c⟩⟩⟩)
def f_139 (a1 : Int) (v : Mem) : Int := if a1 < 0 then (-1) else if a1 < (v 32 4) then if a1 < 1440 then (v 33 (Int.toNat a1)) else (-1) else (-1)
set_option maxRecDepth 100000 in
theorem p_139 {t : Int} {d : Nat} {a1 : Int} {v : Mem} {Q : Int → Mem → Prop} (h : Q (f_139 a1 v) v) : RR t (d + 1) 139 [(2, 32), (0, a1)] v Q := s_139 ⟨fun c0 => (by unfold f_139 at h; rw [if_pos c0] at h; exact h), fun c0 => ⟨fun c1 => ⟨fun c2 => (by unfold f_139 at h; rw [if_neg c0, if_pos c1, if_pos c2] at h; exact h), fun c2 => (by unfold f_139 at h; rw [if_neg c0, if_pos c1, if_neg c2] at h; exact h)⟩, fun c1 => (by unfold f_139 at h; rw [if_neg c0, if_neg c1] at h; exact h)⟩⟩
set_option maxRecDepth 100000 in
theorem w_141 {t : Int} {d : Nat} {a1 : Int} {v : Mem} {Q : Int → Mem → Prop} (h : (RR t d 151 [(2, 32), (0, a1)] v (fun x1 v1 => ((x1 = 0 → Q 0 v1) ∧ (¬ x1 = 0 → ((0 ≤ a1 ∧ a1 < 1440) ∧ Q (v1 35 (Int.toNat a1)) v1)))))) : RR t (d + 1) 141 [(2, 32), (0, a1)] v Q := wp_sound (K := k_141) (cut := []) (f := 14) (cb := false) rfl h
set_option maxRecDepth 100000 in
theorem s_141 {t : Int} {d : Nat} {a1 : Int} {v : Mem} {Q : Int → Mem → Prop} (h : ((a1 < 0 → Q 0 v) ∧ (¬ a1 < 0 → ((a1 < (v 32 4) → ((a1 < 1440 → Q (v 35 (Int.toNat a1)) v) ∧ (¬ a1 < 1440 → Q 0 v))) ∧ (¬ a1 < (v 32 4) → Q 0 v))))) : RR t (d + 1) 141 [(2, 32), (0, a1)] v Q := w_141 (s_151 ⟨fun c1 => ⟨fun _ => (h.1 c1), fun c => absurd (by decide) c⟩, fun c1 => ⟨fun c2 => ⟨fun c3 => ⟨fun c => absurd c (by decide), fun _ => ⟨⟨by omega, by omega⟩, (((h.2 c1).1 c2).1 c3)⟩⟩, fun c3 => ⟨fun _ => (((h.2 c1).1 c2).2 c3), fun c => absurd (by decide) c⟩⟩, fun c2 => ⟨fun _ => ((h.2 c1).2 c2), fun c => absurd (by decide) c⟩⟩⟩)
def f_141 (a1 : Int) (v : Mem) : Int := if a1 < 0 then 0 else if a1 < (v 32 4) then if a1 < 1440 then (v 35 (Int.toNat a1)) else 0 else 0
set_option maxRecDepth 100000 in
theorem p_141 {t : Int} {d : Nat} {a1 : Int} {v : Mem} {Q : Int → Mem → Prop} (h : Q (f_141 a1 v) v) : RR t (d + 1) 141 [(2, 32), (0, a1)] v Q := s_141 ⟨fun c0 => (by unfold f_141 at h; rw [if_pos c0] at h; exact h), fun c0 => ⟨fun c1 => ⟨fun c2 => (by unfold f_141 at h; rw [if_neg c0, if_pos c1, if_pos c2] at h; exact h), fun c2 => (by unfold f_141 at h; rw [if_neg c0, if_pos c1, if_neg c2] at h; exact h)⟩, fun c1 => (by unfold f_141 at h; rw [if_neg c0, if_neg c1] at h; exact h)⟩⟩
set_option maxRecDepth 100000 in
theorem w_143 {t : Int} {d : Nat} {a1 : Int} {v : Mem} {Q : Int → Mem → Prop} (h : (RR t d 139 [(2, 32), (0, a1)] v (fun x1 v1 => (RR t d 140 [(2, 32), (0, a1)] v1 (fun x2 v2 => (RR t d 141 [(2, 32), (0, a1)] v2 (fun x3 v3 => (RR t d 142 [(2, 32), (0, x1), (0, x2), (0, x3)] v3 (fun x4 v4 => Q 0 v4))))))))) : RR t (d + 1) 143 [(2, 32), (0, a1)] v Q := wp_sound (K := k_143) (cut := []) (f := 15) (cb := false) rfl h
set_option maxRecDepth 100000 in
theorem s_143 {t : Int} {d : Nat} {a1 : Int} {v : Mem} {Q : Int → Mem → Prop} (h : (RR t (d + 1) 142 [(2, 32), (0, (f_139 a1 v)), (0, (f_140 a1 v)), (0, (f_141 a1 v))] v (fun x1 v1 => Q 0 v1))) : RR t (d + 2) 143 [(2, 32), (0, a1)] v Q := w_143 (p_139 (p_140 (p_141 (RR.imp h (fun x1 v1 hx1 => hx1)))))
set_option maxRecDepth 100000 in
theorem w_147 {t : Int} {d : Nat} {a1 : Int} {v : Mem} {Q : Int → Mem → Prop} (h : (RR t d 151 [(2, 32), (0, a1)] v (fun x1 v1 => ((x1 = 0 → Q 0 v1) ∧ (¬ x1 = 0 → (RR t d 151 [(2, 32), (0, (w32 ((v 32 4) - 1)))] v1 (fun x2 v2 => ((x2 = 0 → Q 0 v2) ∧ (¬ x2 = 0 → ((0 ≤ a1 ∧ a1 < 1440) ∧ ((0 ≤ (w32 ((v 32 4) - 1)) ∧ (w32 ((v 32 4) - 1)) < 1440) ∧ (RR t d 34 [(2, 15), (0, (v2 33 (Int.toNat (w32 ((v 32 4) - 1)))))] v2 (fun x3 v3 => ((0 ≤ (w32 ((v 32 4) - 1)) ∧ (w32 ((v 32 4) - 1)) < 1440) ∧ ((0 ≤ a1 ∧ a1 < 1440) ∧ ((0 ≤ (w32 ((v 32 4) - 1)) ∧ (w32 ((v 32 4) - 1)) < 1440) ∧ ((0 ≤ a1 ∧ a1 < 1440) ∧ ((0 ≤ (w32 ((v 32 4) - 1)) ∧ (w32 ((v 32 4) - 1)) < 1440) ∧ ((0 ≤ a1 ∧ a1 < 1440) ∧ (RR t d 35 [(2, 15), (0, (v2 33 (Int.toNat a1)))] (up (up (up v3 33 (Int.toNat a1) (v3 33 (Int.toNat (w32 ((v 32 4) - 1))))) 34 (Int.toNat a1) (v3 34 (Int.toNat (w32 ((v 32 4) - 1))))) 35 (Int.toNat a1) (v3 35 (Int.toNat (w32 ((v 32 4) - 1))))) (fun x4 v4 => (RR t d 144 [(2, 32), (0, 1)] v4 (fun x5 v5 => Q 0 v5))))))))))))))))))))))) : RR t (d + 1) 147 [(2, 32), (0, a1)] v Q := wp_sound (K := k_147) (cut := []) (f := 60) (cb := false) rfl h
set_option maxRecDepth 100000 in
theorem s_147 {t : Int} {d : Nat} {a1 : Int} {v : Mem} {Q : Int → Mem → Prop} (h : ((a1 < 0 → Q 0 v) ∧ (¬ a1 < 0 → ((a1 < (v 32 4) → ((a1 < 1440 → (((w32 ((v 32 4) - 1)) < 0 → Q 0 v) ∧ (¬ (w32 ((v 32 4) - 1)) < 0 → (((w32 ((v 32 4) - 1)) < (v 32 4) → (((w32 ((v 32 4) - 1)) < 1440 → (RR t d 144 [(2, 32), (0, 1)] (m_35 (v 33 (Int.toNat a1)) (up (up (up (m_34 (v 33 (Int.toNat (w32 ((v 32 4) - 1)))) v) 33 (Int.toNat a1) (m_34 (v 33 (Int.toNat (w32 ((v 32 4) - 1)))) v 33 (Int.toNat (w32 ((v 32 4) - 1))))) 34 (Int.toNat a1) (m_34 (v 33 (Int.toNat (w32 ((v 32 4) - 1)))) v 34 (Int.toNat (w32 ((v 32 4) - 1))))) 35 (Int.toNat a1) (m_34 (v 33 (Int.toNat (w32 ((v 32 4) - 1)))) v 35 (Int.toNat (w32 ((v 32 4) - 1)))))) (fun x7 v7 => Q 0 v7))) ∧ (¬ (w32 ((v 32 4) - 1)) < 1440 → Q 0 v))) ∧ (¬ (w32 ((v 32 4) - 1)) < (v 32 4) → Q 0 v))))) ∧ (¬ a1 < 1440 → Q 0 v))) ∧ (¬ a1 < (v 32 4) → Q 0 v))))) : RR t (d + 1) 147 [(2, 32), (0, a1)] v Q := w_147 (s_151 ⟨fun c1 => ⟨fun _ => (h.1 c1), fun c => absurd (by decide) c⟩, fun c1 => ⟨fun c2 => ⟨fun c3 => ⟨fun c => absurd c (by decide), fun _ => s_151 ⟨fun c4 => ⟨fun _ => ((((h.2 c1).1 c2).1 c3).1 c4), fun c => absurd (by decide) c⟩, fun c4 => ⟨fun c5 => ⟨fun c6 => ⟨fun c => absurd c (by decide), fun _ => ⟨⟨by omega, by omega⟩, ⟨⟨by omega, by omega⟩, p_34 ⟨⟨by omega, by omega⟩, ⟨⟨by omega, by omega⟩, ⟨⟨by omega, by omega⟩, ⟨⟨by omega, by omega⟩, ⟨⟨by omega, by omega⟩, ⟨⟨by omega, by omega⟩, p_35 (RR.imp ((((((h.2 c1).1 c2).1 c3).2 c4).1 c5).1 c6) (fun x7 v7 hx7 => hx7))⟩⟩⟩⟩⟩⟩⟩⟩⟩, fun c6 => ⟨fun _ => ((((((h.2 c1).1 c2).1 c3).2 c4).1 c5).2 c6), fun c => absurd (by decide) c⟩⟩, fun c5 => ⟨fun _ => (((((h.2 c1).1 c2).1 c3).2 c4).2 c5), fun c => absurd (by decide) c⟩⟩⟩⟩, fun c3 => ⟨fun _ => (((h.2 c1).1 c2).2 c3), fun c => absurd (by decide) c⟩⟩, fun c2 => ⟨fun _ => ((h.2 c1).2 c2), fun c => absurd (by decide) c⟩⟩⟩)
set_option maxRecDepth 100000 in
theorem w_149 {t : Int} {d : Nat} {a1 a2 : Int} {v : Mem} {Q : Int → Mem → Prop} (h : LL t d 149 2 [(2, 32), (0, a1), (0, a2), (0, a1)] [] v Q) : RR t d 149 [(2, 32), (0, a1), (0, a2)] v Q := wp_sound (K := k_149) (cut := [(2, [])]) (f := 39) (cb := false) rfl h
set_option maxRecDepth 100000 in
theorem w_149_2 {t : Int} {d : Nat} {l1 l2 l3 : Int} {v : Mem} {Q : Int → Mem → Prop} (h : ((l3 < (w32 (l1 + l2)) → (RR t d 151 [(2, 32), (0, l3)] v (fun x1 v1 => ((x1 = 0 → Q 0 v1) ∧ (¬ x1 = 0 → ((0 ≤ l3 ∧ l3 < 1440) ∧ (RR t d 35 [(2, 15), (0, (v1 33 (Int.toNat l3)))] v1 (fun x2 v2 => ((0 ≤ l3 ∧ l3 < 1440) ∧ ((0 ≤ l3 ∧ l3 < 1440) ∧ ((0 ≤ l3 ∧ l3 < 1440) ∧ LL t (d + 1) 149 2 [(2, 32), (0, l1), (0, l2), (0, (w32 (l3 + 1)))] [] (up (up (up v2 33 (Int.toNat l3) (-1)) 34 (Int.toNat l3) 0) 35 (Int.toNat l3) 0) Q))))))))))) ∧ (¬ l3 < (w32 (l1 + l2)) → Q 0 v))) : LL t (d + 1) 149 2 [(2, 32), (0, l1), (0, l2), (0, l3)] [] v Q := wp_sound (K := k_149) (cut := [(2, [])]) (f := 39) (cb := false) rfl h
set_option maxRecDepth 100000 in
theorem s_149_2 {t : Int} {d : Nat} {l1 l2 l3 : Int} {v : Mem} {Q : Int → Mem → Prop} (h : ((l3 < (w32 (l1 + l2)) → ((l3 < 0 → Q 0 v) ∧ (¬ l3 < 0 → ((l3 < (v 32 4) → ((l3 < 1440 → LL t (d + 1) 149 2 [(2, 32), (0, l1), (0, l2), (0, (w32 (l3 + 1)))] [] (up (up (up (m_35 (v 33 (Int.toNat l3)) v) 33 (Int.toNat l3) (-1)) 34 (Int.toNat l3) 0) 35 (Int.toNat l3) 0) Q) ∧ (¬ l3 < 1440 → Q 0 v))) ∧ (¬ l3 < (v 32 4) → Q 0 v))))) ∧ (¬ l3 < (w32 (l1 + l2)) → Q 0 v))) : LL t (d + 1) 149 2 [(2, 32), (0, l1), (0, l2), (0, l3)] [] v Q := w_149_2 ⟨fun c1 => s_151 ⟨fun c2 => ⟨fun _ => ((h.1 c1).1 c2), fun c => absurd (by decide) c⟩, fun c2 => ⟨fun c3 => ⟨fun c4 => ⟨fun c => absurd c (by decide), fun _ => ⟨⟨by omega, by omega⟩, p_35 ⟨⟨by omega, by omega⟩, ⟨⟨by omega, by omega⟩, ⟨⟨by omega, by omega⟩, ((((h.1 c1).2 c2).1 c3).1 c4)⟩⟩⟩⟩⟩, fun c4 => ⟨fun _ => ((((h.1 c1).2 c2).1 c3).2 c4), fun c => absurd (by decide) c⟩⟩, fun c3 => ⟨fun _ => (((h.1 c1).2 c2).2 c3), fun c => absurd (by decide) c⟩⟩⟩, fun c1 => (h.2 c1)⟩
set_option maxRecDepth 100000 in
theorem w_146 {t : Int} {d : Nat} {a1 a2 : Int} {v : Mem} {Q : Int → Mem → Prop} (h : (RR t d 144 [(2, 32), (0, a1)] v (fun x1 v1 => (RR t d 142 [(2, 32), (0, (-1)), (0, a2), (0, 0)] v1 (fun x2 v2 => Q 0 v2))))) : RR t (d + 1) 146 [(2, 32), (0, a1), (0, a2)] v Q := wp_sound (K := k_146) (cut := []) (f := 12) (cb := false) rfl h
set_option maxRecDepth 100000 in
theorem w_145 {t : Int} {d : Nat} {a1 a2 a3 a4 : Int} {v : Mem} {Q : Int → Mem → Prop} (h : (RR t d 34 [(2, 15), (0, a2)] v (fun x1 v1 => (RR t d 144 [(2, 32), (0, a1)] v1 (fun x2 v2 => (RR t d 142 [(2, 32), (0, a2), (0, a3), (0, a4)] v2 (fun x3 v3 => (RR t d 35 [(2, 15), (0, a2)] v3 (fun x4 v4 => Q 0 v4))))))))) : RR t (d + 1) 145 [(2, 32), (0, a1), (0, a2), (0, a3), (0, a4)] v Q := wp_sound (K := k_145) (cut := []) (f := 20) (cb := false) rfl h
set_option maxRecDepth 100000 in
theorem s_145 {t : Int} {d : Nat} {a1 a2 a3 a4 : Int} {v : Mem} {Q : Int → Mem → Prop} (h : (RR t d 144 [(2, 32), (0, a1)] (m_34 a2 v) (fun x1 v1 => (RR t d 142 [(2, 32), (0, a2), (0, a3), (0, a4)] v1 (fun x2 v2 => Q 0 (m_35 a2 v2)))))) : RR t (d + 1) 145 [(2, 32), (0, a1), (0, a2), (0, a3), (0, a4)] v Q := w_145 (p_34 (RR.imp h (fun x1 v1 hx1 => RR.imp hx1 (fun x2 v2 hx2 => p_35 hx2))))
