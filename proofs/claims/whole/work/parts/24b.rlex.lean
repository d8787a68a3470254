theorem isQt_r {c : Int} : isQt c = true ↔ 32 ≤ c ∧ c ≤ 126 ∧ ¬ c = 34 := by unfold isQt; exact decide_eq_true_iff
theorem isQt_f {c : Int} : isQt c = false ↔ ¬ (32 ≤ c ∧ c ≤ 126 ∧ ¬ c = 34) := by unfold isQt; exact decide_eq_false_iff_not
theorem nextQuote_rr {t : Int} {d : Nat} {v : Mem} {Q : Int → Mem → Prop} {n i : Nat} (hs : v 38 3 = n) (ht : TXT 40 v n) (hat : v 38 8 = i) (hi : i < n)
    (hq1 : (uB (v 40) n (en isQt (uB (v 40) n) n (i + 1)) = 34 ∧ en isQt (uB (v 40) n) n (i + 1) - i - 1 ≤ 100) → Q 0 (up (up v 38 9 4) 38 11 ((en isQt (uB (v 40) n) n (i + 1) + 1 : Nat) : Int))) (hq2 : ¬ (uB (v 40) n (en isQt (uB (v 40) n) n (i + 1)) = 34 ∧ en isQt (uB (v 40) n) n (i + 1) - i - 1 ≤ 100) → Q 0 v) : RR t (d + 2) 192 [(2, 38)] v Q := by
  have hn := ht.1
  have lp : ∀ (f k : Nat), k + f = n → i < k → en isQt (uB (v 40) n) n (i + 1) = en isQt (uB (v 40) n) n k → LL t (d + 2) 192 7 [(2, 38), (0, (k : Int))] [] v Q := by
    intro f
    induction f with
    | zero =>
      intro k hk hik he
      have hd : isQt (uB (v 40) n k) = false := by rw [uB_out (by omega)]; decide
      rw [en_stop hd] at he
      have hu := uB_out (b := v 40) (n := n) (k := k) (by omega)
      rw [he, hu] at hq2
      refine s_192_7 (d := d + 1) ?_
      rw [f186 hs ht, hu]
      exact ⟨gd hs hn, fun _ => ⟨gd hs hn, fun c => absurd c (by decide), fun _ => hq2 (fun h => absurd h.1 (by decide))⟩, fun c => absurd (by decide) c⟩
    | succ f ih =>
      intro k hk hik he
      have e1 : w32 (w32 ((k : Int) - v 38 8) - 1) = ((k - i - 1 : Nat) : Int) := by
        rw [hat, w32_id (a := (k : Int) - (i : Int)) (by omega) (by omega)]
        exact wNat (by omega) (by omega)
      have e2 : w32 ((k : Int) + 1) = ((k + 1 : Nat) : Int) := wNat (by omega) (by omega)
      refine s_192_7 (d := d + 1) ?_
      rw [f186 hs ht, e1, e2]
      have stop : isQt (uB (v 40) n k) = false → ((uB (v 40) n k = 34 → ((100 < ((k - i - 1 : Nat) : Int) → Q 0 v) ∧ (¬ 100 < ((k - i - 1 : Nat) : Int) → Q 0 (up (up v 38 9 4) 38 11 ((k + 1 : Nat) : Int))))) ∧ (¬ uB (v 40) n k = 34 → Q 0 v)) := by
        intro hd
        rw [en_stop hd] at he
        rw [he] at hq1 hq2
        exact ⟨fun c => ⟨fun c2 => hq2 (fun h => by omega), fun c2 => hq1 ⟨c, by omega⟩⟩, fun c => hq2 (fun h => c h.1)⟩
      refine ⟨gd hs hn, fun c => ⟨gd hs hn, stop (isQt_f.mpr (by omega))⟩, fun c => ⟨gd hs hn, fun c2 => ⟨gd hs hn, stop (isQt_f.mpr (by omega))⟩, fun c2 => ⟨gd hs hn, fun c3 => ⟨gd hs hn, stop (isQt_f.mpr (by omega))⟩, fun c3 => ?_⟩⟩⟩
      have hd : isQt (uB (v 40) n k) = true := isQt_r.mpr ⟨by omega, by omega, c3⟩
      have hx := ih (k + 1) (by omega) (Nat.lt_succ_of_lt hik) (by rw [he, en_go hd (by omega)])
      exact hx
  refine w_192 ?_
  have e2 : w32 ((v 38 8) + 1) = ((i + 1 : Nat) : Int) := wNat (by rw [hat]; omega) (by omega)
  rw [e2]
  have h9 := lp (n - (i + 1)) (i + 1) (by omega) (by omega) rfl
  exact h9
