/-! More ways to a throw. -/
theorem th_178b {t : Int} {d : Nat} {a : Int} {v : Mem} (h1 : ¬ a < 0) (h : ¬ a < v 15 6) : XH t (d + 1) 178 4 [(2, 0), (0, a)] [] v 19 [(2, 0), (0, a)] [] := by
  obtain ⟨x, v', e, e1, e2⟩ := (w_41 ⟨rfl, rfl⟩ : RR t d 41 [(2, 15)] v (fun x v' => x = v 15 6 ∧ v' = v))
  rw [e1, e2] at e
  refine xs_stp (x_stp (i := .iload_n 1) (r := []) rfl rfl rfl : xr (d + 1) 178 4 [(2, 0), (0, a)] [] (sg t v) = xr (d + 1) 178 5 [(2, 0), (0, a)] [(0, a)] (sg t v)) ?_
  refine xs_stp (pc' := brc .lt a 0 19 8) (L' := [(2, 0), (0, a)]) (S' := []) (x_stp (i := .ifCond .lt 14) (r := [19]) rfl rfl rfl : xr (d + 1) 178 5 [(2, 0), (0, a)] [(0, a)] (sg t v) = xr (d + 1) 178 (brc .lt a 0 19 8) [(2, 0), (0, a)] [] (sg t v)) ?_
  rw [show brc .lt a 0 19 8 = 8 from if_neg h1]
  refine xs_stp (x_stp (i := .iload_n 1) (r := []) rfl rfl rfl : xr (d + 1) 178 8 [(2, 0), (0, a)] [] (sg t v) = xr (d + 1) 178 9 [(2, 0), (0, a)] [(0, a)] (sg t v)) ?_
  refine xs_stp (x_stp (i := .aload_n 0) (r := []) rfl rfl rfl : xr (d + 1) 178 9 [(2, 0), (0, a)] [(0, a)] (sg t v) = xr (d + 1) 178 10 [(2, 0), (0, a)] [(2, 0), (0, a)] (sg t v)) ?_
  refine xs_stp (x_stp (i := .getfield 29) (r := [2, 9, 2]) rfl rfl rfl : xr (d + 1) 178 10 [(2, 0), (0, a)] [(2, 0), (0, a)] (sg t v) = xr (d + 1) 178 13 [(2, 0), (0, a)] [(2, 15), (0, a)] (sg t v)) ?_
  have ec : xr (d + 1) 178 13 [(2, 0), (0, a)] [(2, 15), (0, a)] (sg t v) = xr (d + 1) 178 16 [(2, 0), (0, a)] [(0, v 15 6), (0, a)] (sg t v) := (x_call (i := .invokevirtual 137) (r := [41]) (as := [(2, 15)]) (S' := [(0, a)]) rfl rfl rfl rfl rfl).trans (by rw [e]; rfl)
  refine xs_stp ec ?_
  refine xs_stp (pc' := brc .lt a (v 15 6) 29 19) (L' := [(2, 0), (0, a)]) (S' := []) (x_stp (i := .if_icmp .lt 13) (r := [29]) rfl rfl rfl : xr (d + 1) 178 16 [(2, 0), (0, a)] [(0, v 15 6), (0, a)] (sg t v) = xr (d + 1) 178 (brc .lt a (v 15 6) 29 19) [(2, 0), (0, a)] [] (sg t v)) ?_
  rw [show brc .lt a (v 15 6) 29 19 = 19 from if_neg h]
  exact xs_end (i := .new 140) (r := [-9]) rfl rfl
theorem th_176x {t : Int} {d : Nat} {a : Int} {v : Mem} (h : a < 0 ∨ 7 < a) : XH t d 176 4 [(2, 0), (0, a)] [] v 116 [(2, 0), (0, a)] [] := by
  have e : (tsw 0 [52, 60, 68, 76, 84, 92, 100, 108] 116 a).toNat = 116 := by
    unfold tsw; rw [if_neg (by omega)]
    unfold tsw; rw [if_neg (by omega)]
    unfold tsw; rw [if_neg (by omega)]
    unfold tsw; rw [if_neg (by omega)]
    unfold tsw; rw [if_neg (by omega)]
    unfold tsw; rw [if_neg (by omega)]
    unfold tsw; rw [if_neg (by omega)]
    unfold tsw; rw [if_neg (by omega)]
    rfl
  refine xs_stp (x_stp (i := .iload_n 1) (r := []) rfl rfl rfl : xr d 176 4 [(2, 0), (0, a)] [] (sg t v) = xr d 176 5 [(2, 0), (0, a)] [(0, a)] (sg t v)) ?_
  refine xs_stp (pc' := (tsw 0 [52, 60, 68, 76, 84, 92, 100, 108] 116 a).toNat) (L' := [(2, 0), (0, a)]) (S' := []) (x_stp (i := .tableswitch 111 0 7 #[47, 55, 63, 71, 79, 87, 95, 103]) (r := [47, 0, 116, 52, 60, 68, 76, 84, 92, 100, 108]) rfl rfl rfl : xr d 176 5 [(2, 0), (0, a)] [(0, a)] (sg t v) = xr d 176 (tsw 0 [52, 60, 68, 76, 84, 92, 100, 108] 116 a).toNat [(2, 0), (0, a)] [] (sg t v)) ?_
  rw [e]
  exact xs_end (i := .new 65) (r := [-9]) rfl rfl
