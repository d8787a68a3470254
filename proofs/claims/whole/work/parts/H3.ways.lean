/-! The ways to a throw. -/
/-- the method stops at pc1, and nothing has changed -/
def XH (t : Int) (d y pc : Nat) (L S : List AV) (v : Mem) (pc1 : Nat) (L1 S1 : List AV) : Prop := xr d y pc L S (sg t v) = some (pc1, L1, S1, sg t v)
theorem xs_stp {t : Int} {d y pc pc' pc1 : Nat} {L S L' S' L1 S1 : List AV} {v : Mem} (e : xr d y pc L S (sg t v) = xr d y pc' L' S' (sg t v)) (h : XH t d y pc' L' S' v pc1 L1 S1) : XH t d y pc L S v pc1 L1 S1 := e.trans h
theorem xs_end {t : Int} {d y pc : Nat} {L S : List AV} {v : Mem} {i : Instr} {r : List Int} (h1 : lk (cod y) pc = some (i, r)) (h2 : isStop i r = true) : XH t d y pc L S v pc L S := x_stop h1 h2
theorem th_180 {t : Int} {d : Nat} {v : Mem} (h : v 0 7 = 0) : XH t d 180 0 [(2, 0)] [] v 7 [(2, 0)] [] := by
  refine xs_stp (x_stp (i := .aload_n 0) (r := []) rfl rfl rfl : xr d 180 0 [(2, 0)] [] (sg t v) = xr d 180 1 [(2, 0)] [(2, 0)] (sg t v)) ?_
  refine xs_stp (x_stp (i := .getfield 61) (r := [4, 9, 7]) rfl rfl rfl : xr d 180 1 [(2, 0)] [(2, 0)] (sg t v) = xr d 180 4 [(2, 0)] [(0, v 0 7)] (sg t v)) ?_
  refine xs_stp (pc' := brc .ne (v 0 7) 0 17 7) (L' := [(2, 0)]) (S' := []) (x_stp (i := .ifCond .ne 13) (r := [17]) rfl rfl rfl : xr d 180 4 [(2, 0)] [(0, v 0 7)] (sg t v) = xr d 180 (brc .ne (v 0 7) 0 17 7) [(2, 0)] [] (sg t v)) ?_
  rw [show brc .ne (v 0 7) 0 17 7 = 7 from if_pos h]
  exact xs_end (i := .new 92) (r := [-9]) rfl rfl
theorem th_172a {t : Int} {d : Nat} {x a : Int} {v : Mem} (h : a < 1) : XH t d 172 0 [(2, 0), (1, x), (3, 0), (0, a), (3, 0)] [] v 11 [(2, 0), (1, x), (3, 0), (0, a), (3, 0)] [] := by
  refine xs_stp (x_stp (i := .iload_n 3) (r := []) rfl rfl rfl : xr d 172 0 [(2, 0), (1, x), (3, 0), (0, a), (3, 0)] [] (sg t v) = xr d 172 1 [(2, 0), (1, x), (3, 0), (0, a), (3, 0)] [(0, a)] (sg t v)) ?_
  refine xs_stp (x_stp (i := .iconst 1) (r := []) rfl rfl rfl : xr d 172 1 [(2, 0), (1, x), (3, 0), (0, a), (3, 0)] [(0, a)] (sg t v) = xr d 172 2 [(2, 0), (1, x), (3, 0), (0, a), (3, 0)] [(0, 1), (0, a)] (sg t v)) ?_
  refine xs_stp (pc' := brc .lt a 1 11 5) (L' := [(2, 0), (1, x), (3, 0), (0, a), (3, 0)]) (S' := []) (x_stp (i := .if_icmp .lt 9) (r := [11]) rfl rfl rfl : xr d 172 2 [(2, 0), (1, x), (3, 0), (0, a), (3, 0)] [(0, 1), (0, a)] (sg t v) = xr d 172 (brc .lt a 1 11 5) [(2, 0), (1, x), (3, 0), (0, a), (3, 0)] [] (sg t v)) ?_
  rw [show brc .lt a 1 11 5 = 11 from if_pos h]
  exact xs_end (i := .new 65) (r := [-9]) rfl rfl
theorem th_172b {t : Int} {d : Nat} {x a : Int} {v : Mem} (h1 : ¬ a < 1) (h : 8 < a) : XH t d 172 0 [(2, 0), (1, x), (3, 0), (0, a), (3, 0)] [] v 11 [(2, 0), (1, x), (3, 0), (0, a), (3, 0)] [] := by
  refine xs_stp (x_stp (i := .iload_n 3) (r := []) rfl rfl rfl : xr d 172 0 [(2, 0), (1, x), (3, 0), (0, a), (3, 0)] [] (sg t v) = xr d 172 1 [(2, 0), (1, x), (3, 0), (0, a), (3, 0)] [(0, a)] (sg t v)) ?_
  refine xs_stp (x_stp (i := .iconst 1) (r := []) rfl rfl rfl : xr d 172 1 [(2, 0), (1, x), (3, 0), (0, a), (3, 0)] [(0, a)] (sg t v) = xr d 172 2 [(2, 0), (1, x), (3, 0), (0, a), (3, 0)] [(0, 1), (0, a)] (sg t v)) ?_
  refine xs_stp (pc' := brc .lt a 1 11 5) (L' := [(2, 0), (1, x), (3, 0), (0, a), (3, 0)]) (S' := []) (x_stp (i := .if_icmp .lt 9) (r := [11]) rfl rfl rfl : xr d 172 2 [(2, 0), (1, x), (3, 0), (0, a), (3, 0)] [(0, 1), (0, a)] (sg t v) = xr d 172 (brc .lt a 1 11 5) [(2, 0), (1, x), (3, 0), (0, a), (3, 0)] [] (sg t v)) ?_
  rw [show brc .lt a 1 11 5 = 5 from if_neg h1]
  refine xs_stp (x_stp (i := .iload_n 3) (r := []) rfl rfl rfl : xr d 172 5 [(2, 0), (1, x), (3, 0), (0, a), (3, 0)] [] (sg t v) = xr d 172 6 [(2, 0), (1, x), (3, 0), (0, a), (3, 0)] [(0, a)] (sg t v)) ?_
  refine xs_stp (x_stp (i := .bipush 8) (r := []) rfl rfl rfl : xr d 172 6 [(2, 0), (1, x), (3, 0), (0, a), (3, 0)] [(0, a)] (sg t v) = xr d 172 8 [(2, 0), (1, x), (3, 0), (0, a), (3, 0)] [(0, 8), (0, a)] (sg t v)) ?_
  refine xs_stp (pc' := brc .le a 8 21 11) (L' := [(2, 0), (1, x), (3, 0), (0, a), (3, 0)]) (S' := []) (x_stp (i := .if_icmp .le 13) (r := [21]) rfl rfl rfl : xr d 172 8 [(2, 0), (1, x), (3, 0), (0, a), (3, 0)] [(0, 8), (0, a)] (sg t v) = xr d 172 (brc .le a 8 21 11) [(2, 0), (1, x), (3, 0), (0, a), (3, 0)] [] (sg t v)) ?_
  rw [show brc .le a 8 21 11 = 11 from if_pos h]
  exact xs_end (i := .new 65) (r := [-9]) rfl rfl
theorem th_172c {t : Int} {d : Nat} {x a : Int} {v : Mem} (h1 : ¬ a < 1) (h2 : ¬ 8 < a) (h : 3200 < w32 (v 0 5 + a)) : XH t d 172 0 [(2, 0), (1, x), (3, 0), (0, a), (3, 0)] [] v 33 [(2, 0), (1, x), (3, 0), (0, a), (3, 0)] [] := by
  refine xs_stp (x_stp (i := .iload_n 3) (r := []) rfl rfl rfl : xr d 172 0 [(2, 0), (1, x), (3, 0), (0, a), (3, 0)] [] (sg t v) = xr d 172 1 [(2, 0), (1, x), (3, 0), (0, a), (3, 0)] [(0, a)] (sg t v)) ?_
  refine xs_stp (x_stp (i := .iconst 1) (r := []) rfl rfl rfl : xr d 172 1 [(2, 0), (1, x), (3, 0), (0, a), (3, 0)] [(0, a)] (sg t v) = xr d 172 2 [(2, 0), (1, x), (3, 0), (0, a), (3, 0)] [(0, 1), (0, a)] (sg t v)) ?_
  refine xs_stp (pc' := brc .lt a 1 11 5) (L' := [(2, 0), (1, x), (3, 0), (0, a), (3, 0)]) (S' := []) (x_stp (i := .if_icmp .lt 9) (r := [11]) rfl rfl rfl : xr d 172 2 [(2, 0), (1, x), (3, 0), (0, a), (3, 0)] [(0, 1), (0, a)] (sg t v) = xr d 172 (brc .lt a 1 11 5) [(2, 0), (1, x), (3, 0), (0, a), (3, 0)] [] (sg t v)) ?_
  rw [show brc .lt a 1 11 5 = 5 from if_neg h1]
  refine xs_stp (x_stp (i := .iload_n 3) (r := []) rfl rfl rfl : xr d 172 5 [(2, 0), (1, x), (3, 0), (0, a), (3, 0)] [] (sg t v) = xr d 172 6 [(2, 0), (1, x), (3, 0), (0, a), (3, 0)] [(0, a)] (sg t v)) ?_
  refine xs_stp (x_stp (i := .bipush 8) (r := []) rfl rfl rfl : xr d 172 6 [(2, 0), (1, x), (3, 0), (0, a), (3, 0)] [(0, a)] (sg t v) = xr d 172 8 [(2, 0), (1, x), (3, 0), (0, a), (3, 0)] [(0, 8), (0, a)] (sg t v)) ?_
  refine xs_stp (pc' := brc .le a 8 21 11) (L' := [(2, 0), (1, x), (3, 0), (0, a), (3, 0)]) (S' := []) (x_stp (i := .if_icmp .le 13) (r := [21]) rfl rfl rfl : xr d 172 8 [(2, 0), (1, x), (3, 0), (0, a), (3, 0)] [(0, 8), (0, a)] (sg t v) = xr d 172 (brc .le a 8 21 11) [(2, 0), (1, x), (3, 0), (0, a), (3, 0)] [] (sg t v)) ?_
  rw [show brc .le a 8 21 11 = 21 from if_neg h2]
  refine xs_stp (x_stp (i := .aload_n 0) (r := []) rfl rfl rfl : xr d 172 21 [(2, 0), (1, x), (3, 0), (0, a), (3, 0)] [] (sg t v) = xr d 172 22 [(2, 0), (1, x), (3, 0), (0, a), (3, 0)] [(2, 0)] (sg t v)) ?_
  refine xs_stp (x_stp (i := .getfield 54) (r := [0, 9, 5]) rfl rfl rfl : xr d 172 22 [(2, 0), (1, x), (3, 0), (0, a), (3, 0)] [(2, 0)] (sg t v) = xr d 172 25 [(2, 0), (1, x), (3, 0), (0, a), (3, 0)] [(0, v 0 5)] (sg t v)) ?_
  refine xs_stp (x_stp (i := .iload_n 3) (r := []) rfl rfl rfl : xr d 172 25 [(2, 0), (1, x), (3, 0), (0, a), (3, 0)] [(0, v 0 5)] (sg t v) = xr d 172 26 [(2, 0), (1, x), (3, 0), (0, a), (3, 0)] [(0, a), (0, v 0 5)] (sg t v)) ?_
  refine xs_stp (x_stp (i := .iadd) (r := []) rfl rfl rfl : xr d 172 26 [(2, 0), (1, x), (3, 0), (0, a), (3, 0)] [(0, a), (0, v 0 5)] (sg t v) = xr d 172 27 [(2, 0), (1, x), (3, 0), (0, a), (3, 0)] [(0, w32 (v 0 5 + a))] (sg t v)) ?_
  refine xs_stp (x_stp (i := .sipush 3200) (r := []) rfl rfl rfl : xr d 172 27 [(2, 0), (1, x), (3, 0), (0, a), (3, 0)] [(0, w32 (v 0 5 + a))] (sg t v) = xr d 172 30 [(2, 0), (1, x), (3, 0), (0, a), (3, 0)] [(0, 3200), (0, w32 (v 0 5 + a))] (sg t v)) ?_
  refine xs_stp (pc' := brc .le (w32 (v 0 5 + a)) 3200 43 33) (L' := [(2, 0), (1, x), (3, 0), (0, a), (3, 0)]) (S' := []) (x_stp (i := .if_icmp .le 13) (r := [43]) rfl rfl rfl : xr d 172 30 [(2, 0), (1, x), (3, 0), (0, a), (3, 0)] [(0, 3200), (0, w32 (v 0 5 + a))] (sg t v) = xr d 172 (brc .le (w32 (v 0 5 + a)) 3200 43 33) [(2, 0), (1, x), (3, 0), (0, a), (3, 0)] [] (sg t v)) ?_
  rw [show brc .le (w32 (v 0 5 + a)) 3200 43 33 = 33 from if_pos h]
  exact xs_end (i := .new 65) (r := [-9]) rfl rfl
theorem th_175a {t : Int} {d : Nat} {a b : Int} {v : Mem} (h : ¬ v 0 6 = 0) : XH t d 175 0 [(2, 0), (0, a), (0, b)] [] v 7 [(2, 0), (0, a), (0, b)] [] := by
  refine xs_stp (x_stp (i := .aload_n 0) (r := []) rfl rfl rfl : xr d 175 0 [(2, 0), (0, a), (0, b)] [] (sg t v) = xr d 175 1 [(2, 0), (0, a), (0, b)] [(2, 0)] (sg t v)) ?_
  refine xs_stp (x_stp (i := .getfield 58) (r := [0, 9, 6]) rfl rfl rfl : xr d 175 1 [(2, 0), (0, a), (0, b)] [(2, 0)] (sg t v) = xr d 175 4 [(2, 0), (0, a), (0, b)] [(0, v 0 6)] (sg t v)) ?_
  refine xs_stp (pc' := brc .eq (v 0 6) 0 17 7) (L' := [(2, 0), (0, a), (0, b)]) (S' := []) (x_stp (i := .ifCond .eq 13) (r := [17]) rfl rfl rfl : xr d 175 4 [(2, 0), (0, a), (0, b)] [(0, v 0 6)] (sg t v) = xr d 175 (brc .eq (v 0 6) 0 17 7) [(2, 0), (0, a), (0, b)] [] (sg t v)) ?_
  rw [show brc .eq (v 0 6) 0 17 7 = 7 from if_neg h]
  exact xs_end (i := .new 92) (r := [-9]) rfl rfl
theorem th_175b {t : Int} {d : Nat} {a b : Int} {v : Mem} (h0 : v 0 6 = 0) (h : a < 0) : XH t d 175 0 [(2, 0), (0, a), (0, b)] [] v 28 [(2, 0), (0, a), (0, b)] [] := by
  refine xs_stp (x_stp (i := .aload_n 0) (r := []) rfl rfl rfl : xr d 175 0 [(2, 0), (0, a), (0, b)] [] (sg t v) = xr d 175 1 [(2, 0), (0, a), (0, b)] [(2, 0)] (sg t v)) ?_
  refine xs_stp (x_stp (i := .getfield 58) (r := [0, 9, 6]) rfl rfl rfl : xr d 175 1 [(2, 0), (0, a), (0, b)] [(2, 0)] (sg t v) = xr d 175 4 [(2, 0), (0, a), (0, b)] [(0, v 0 6)] (sg t v)) ?_
  refine xs_stp (pc' := brc .eq (v 0 6) 0 17 7) (L' := [(2, 0), (0, a), (0, b)]) (S' := []) (x_stp (i := .ifCond .eq 13) (r := [17]) rfl rfl rfl : xr d 175 4 [(2, 0), (0, a), (0, b)] [(0, v 0 6)] (sg t v) = xr d 175 (brc .eq (v 0 6) 0 17 7) [(2, 0), (0, a), (0, b)] [] (sg t v)) ?_
  rw [show brc .eq (v 0 6) 0 17 7 = 17 from if_pos h0]
  refine xs_stp (x_stp (i := .iload_n 1) (r := []) rfl rfl rfl : xr d 175 17 [(2, 0), (0, a), (0, b)] [] (sg t v) = xr d 175 18 [(2, 0), (0, a), (0, b)] [(0, a)] (sg t v)) ?_
  refine xs_stp (pc' := brc .lt a 0 28 21) (L' := [(2, 0), (0, a), (0, b)]) (S' := []) (x_stp (i := .ifCond .lt 10) (r := [28]) rfl rfl rfl : xr d 175 18 [(2, 0), (0, a), (0, b)] [(0, a)] (sg t v) = xr d 175 (brc .lt a 0 28 21) [(2, 0), (0, a), (0, b)] [] (sg t v)) ?_
  rw [show brc .lt a 0 28 21 = 28 from if_pos h]
  exact xs_end (i := .new 65) (r := [-9]) rfl rfl
theorem th_175c {t : Int} {d : Nat} {a b : Int} {v : Mem} (h0 : v 0 6 = 0) (h1 : ¬ a < 0) (h : 4000 < a) : XH t d 175 0 [(2, 0), (0, a), (0, b)] [] v 28 [(2, 0), (0, a), (0, b)] [] := by
  refine xs_stp (x_stp (i := .aload_n 0) (r := []) rfl rfl rfl : xr d 175 0 [(2, 0), (0, a), (0, b)] [] (sg t v) = xr d 175 1 [(2, 0), (0, a), (0, b)] [(2, 0)] (sg t v)) ?_
  refine xs_stp (x_stp (i := .getfield 58) (r := [0, 9, 6]) rfl rfl rfl : xr d 175 1 [(2, 0), (0, a), (0, b)] [(2, 0)] (sg t v) = xr d 175 4 [(2, 0), (0, a), (0, b)] [(0, v 0 6)] (sg t v)) ?_
  refine xs_stp (pc' := brc .eq (v 0 6) 0 17 7) (L' := [(2, 0), (0, a), (0, b)]) (S' := []) (x_stp (i := .ifCond .eq 13) (r := [17]) rfl rfl rfl : xr d 175 4 [(2, 0), (0, a), (0, b)] [(0, v 0 6)] (sg t v) = xr d 175 (brc .eq (v 0 6) 0 17 7) [(2, 0), (0, a), (0, b)] [] (sg t v)) ?_
  rw [show brc .eq (v 0 6) 0 17 7 = 17 from if_pos h0]
  refine xs_stp (x_stp (i := .iload_n 1) (r := []) rfl rfl rfl : xr d 175 17 [(2, 0), (0, a), (0, b)] [] (sg t v) = xr d 175 18 [(2, 0), (0, a), (0, b)] [(0, a)] (sg t v)) ?_
  refine xs_stp (pc' := brc .lt a 0 28 21) (L' := [(2, 0), (0, a), (0, b)]) (S' := []) (x_stp (i := .ifCond .lt 10) (r := [28]) rfl rfl rfl : xr d 175 18 [(2, 0), (0, a), (0, b)] [(0, a)] (sg t v) = xr d 175 (brc .lt a 0 28 21) [(2, 0), (0, a), (0, b)] [] (sg t v)) ?_
  rw [show brc .lt a 0 28 21 = 21 from if_neg h1]
  refine xs_stp (x_stp (i := .iload_n 1) (r := []) rfl rfl rfl : xr d 175 21 [(2, 0), (0, a), (0, b)] [] (sg t v) = xr d 175 22 [(2, 0), (0, a), (0, b)] [(0, a)] (sg t v)) ?_
  refine xs_stp (x_stp (i := .sipush 4000) (r := []) rfl rfl rfl : xr d 175 22 [(2, 0), (0, a), (0, b)] [(0, a)] (sg t v) = xr d 175 25 [(2, 0), (0, a), (0, b)] [(0, 4000), (0, a)] (sg t v)) ?_
  refine xs_stp (pc' := brc .le a 4000 38 28) (L' := [(2, 0), (0, a), (0, b)]) (S' := []) (x_stp (i := .if_icmp .le 13) (r := [38]) rfl rfl rfl : xr d 175 25 [(2, 0), (0, a), (0, b)] [(0, 4000), (0, a)] (sg t v) = xr d 175 (brc .le a 4000 38 28) [(2, 0), (0, a), (0, b)] [] (sg t v)) ?_
  rw [show brc .le a 4000 38 28 = 28 from if_pos h]
  exact xs_end (i := .new 65) (r := [-9]) rfl rfl
theorem th_175d {t : Int} {d : Nat} {a b : Int} {v : Mem} (h0 : v 0 6 = 0) (h1 : ¬ a < 0) (h2 : ¬ 4000 < a) (h : b < 1) : XH t d 175 0 [(2, 0), (0, a), (0, b)] [] v 49 [(2, 0), (0, a), (0, b)] [] := by
  refine xs_stp (x_stp (i := .aload_n 0) (r := []) rfl rfl rfl : xr d 175 0 [(2, 0), (0, a), (0, b)] [] (sg t v) = xr d 175 1 [(2, 0), (0, a), (0, b)] [(2, 0)] (sg t v)) ?_
  refine xs_stp (x_stp (i := .getfield 58) (r := [0, 9, 6]) rfl rfl rfl : xr d 175 1 [(2, 0), (0, a), (0, b)] [(2, 0)] (sg t v) = xr d 175 4 [(2, 0), (0, a), (0, b)] [(0, v 0 6)] (sg t v)) ?_
  refine xs_stp (pc' := brc .eq (v 0 6) 0 17 7) (L' := [(2, 0), (0, a), (0, b)]) (S' := []) (x_stp (i := .ifCond .eq 13) (r := [17]) rfl rfl rfl : xr d 175 4 [(2, 0), (0, a), (0, b)] [(0, v 0 6)] (sg t v) = xr d 175 (brc .eq (v 0 6) 0 17 7) [(2, 0), (0, a), (0, b)] [] (sg t v)) ?_
  rw [show brc .eq (v 0 6) 0 17 7 = 17 from if_pos h0]
  refine xs_stp (x_stp (i := .iload_n 1) (r := []) rfl rfl rfl : xr d 175 17 [(2, 0), (0, a), (0, b)] [] (sg t v) = xr d 175 18 [(2, 0), (0, a), (0, b)] [(0, a)] (sg t v)) ?_
  refine xs_stp (pc' := brc .lt a 0 28 21) (L' := [(2, 0), (0, a), (0, b)]) (S' := []) (x_stp (i := .ifCond .lt 10) (r := [28]) rfl rfl rfl : xr d 175 18 [(2, 0), (0, a), (0, b)] [(0, a)] (sg t v) = xr d 175 (brc .lt a 0 28 21) [(2, 0), (0, a), (0, b)] [] (sg t v)) ?_
  rw [show brc .lt a 0 28 21 = 21 from if_neg h1]
  refine xs_stp (x_stp (i := .iload_n 1) (r := []) rfl rfl rfl : xr d 175 21 [(2, 0), (0, a), (0, b)] [] (sg t v) = xr d 175 22 [(2, 0), (0, a), (0, b)] [(0, a)] (sg t v)) ?_
  refine xs_stp (x_stp (i := .sipush 4000) (r := []) rfl rfl rfl : xr d 175 22 [(2, 0), (0, a), (0, b)] [(0, a)] (sg t v) = xr d 175 25 [(2, 0), (0, a), (0, b)] [(0, 4000), (0, a)] (sg t v)) ?_
  refine xs_stp (pc' := brc .le a 4000 38 28) (L' := [(2, 0), (0, a), (0, b)]) (S' := []) (x_stp (i := .if_icmp .le 13) (r := [38]) rfl rfl rfl : xr d 175 25 [(2, 0), (0, a), (0, b)] [(0, 4000), (0, a)] (sg t v) = xr d 175 (brc .le a 4000 38 28) [(2, 0), (0, a), (0, b)] [] (sg t v)) ?_
  rw [show brc .le a 4000 38 28 = 38 from if_neg h2]
  refine xs_stp (x_stp (i := .iload_n 2) (r := []) rfl rfl rfl : xr d 175 38 [(2, 0), (0, a), (0, b)] [] (sg t v) = xr d 175 39 [(2, 0), (0, a), (0, b)] [(0, b)] (sg t v)) ?_
  refine xs_stp (x_stp (i := .iconst 1) (r := []) rfl rfl rfl : xr d 175 39 [(2, 0), (0, a), (0, b)] [(0, b)] (sg t v) = xr d 175 40 [(2, 0), (0, a), (0, b)] [(0, 1), (0, b)] (sg t v)) ?_
  refine xs_stp (pc' := brc .lt b 1 49 43) (L' := [(2, 0), (0, a), (0, b)]) (S' := []) (x_stp (i := .if_icmp .lt 9) (r := [49]) rfl rfl rfl : xr d 175 40 [(2, 0), (0, a), (0, b)] [(0, 1), (0, b)] (sg t v) = xr d 175 (brc .lt b 1 49 43) [(2, 0), (0, a), (0, b)] [] (sg t v)) ?_
  rw [show brc .lt b 1 49 43 = 49 from if_pos h]
  exact xs_end (i := .new 65) (r := [-9]) rfl rfl
theorem th_175e {t : Int} {d : Nat} {a b : Int} {v : Mem} (h0 : v 0 6 = 0) (h1 : ¬ a < 0) (h2 : ¬ 4000 < a) (h3 : ¬ b < 1) (h : 12 < b) : XH t d 175 0 [(2, 0), (0, a), (0, b)] [] v 49 [(2, 0), (0, a), (0, b)] [] := by
  refine xs_stp (x_stp (i := .aload_n 0) (r := []) rfl rfl rfl : xr d 175 0 [(2, 0), (0, a), (0, b)] [] (sg t v) = xr d 175 1 [(2, 0), (0, a), (0, b)] [(2, 0)] (sg t v)) ?_
  refine xs_stp (x_stp (i := .getfield 58) (r := [0, 9, 6]) rfl rfl rfl : xr d 175 1 [(2, 0), (0, a), (0, b)] [(2, 0)] (sg t v) = xr d 175 4 [(2, 0), (0, a), (0, b)] [(0, v 0 6)] (sg t v)) ?_
  refine xs_stp (pc' := brc .eq (v 0 6) 0 17 7) (L' := [(2, 0), (0, a), (0, b)]) (S' := []) (x_stp (i := .ifCond .eq 13) (r := [17]) rfl rfl rfl : xr d 175 4 [(2, 0), (0, a), (0, b)] [(0, v 0 6)] (sg t v) = xr d 175 (brc .eq (v 0 6) 0 17 7) [(2, 0), (0, a), (0, b)] [] (sg t v)) ?_
  rw [show brc .eq (v 0 6) 0 17 7 = 17 from if_pos h0]
  refine xs_stp (x_stp (i := .iload_n 1) (r := []) rfl rfl rfl : xr d 175 17 [(2, 0), (0, a), (0, b)] [] (sg t v) = xr d 175 18 [(2, 0), (0, a), (0, b)] [(0, a)] (sg t v)) ?_
  refine xs_stp (pc' := brc .lt a 0 28 21) (L' := [(2, 0), (0, a), (0, b)]) (S' := []) (x_stp (i := .ifCond .lt 10) (r := [28]) rfl rfl rfl : xr d 175 18 [(2, 0), (0, a), (0, b)] [(0, a)] (sg t v) = xr d 175 (brc .lt a 0 28 21) [(2, 0), (0, a), (0, b)] [] (sg t v)) ?_
  rw [show brc .lt a 0 28 21 = 21 from if_neg h1]
  refine xs_stp (x_stp (i := .iload_n 1) (r := []) rfl rfl rfl : xr d 175 21 [(2, 0), (0, a), (0, b)] [] (sg t v) = xr d 175 22 [(2, 0), (0, a), (0, b)] [(0, a)] (sg t v)) ?_
  refine xs_stp (x_stp (i := .sipush 4000) (r := []) rfl rfl rfl : xr d 175 22 [(2, 0), (0, a), (0, b)] [(0, a)] (sg t v) = xr d 175 25 [(2, 0), (0, a), (0, b)] [(0, 4000), (0, a)] (sg t v)) ?_
  refine xs_stp (pc' := brc .le a 4000 38 28) (L' := [(2, 0), (0, a), (0, b)]) (S' := []) (x_stp (i := .if_icmp .le 13) (r := [38]) rfl rfl rfl : xr d 175 25 [(2, 0), (0, a), (0, b)] [(0, 4000), (0, a)] (sg t v) = xr d 175 (brc .le a 4000 38 28) [(2, 0), (0, a), (0, b)] [] (sg t v)) ?_
  rw [show brc .le a 4000 38 28 = 38 from if_neg h2]
  refine xs_stp (x_stp (i := .iload_n 2) (r := []) rfl rfl rfl : xr d 175 38 [(2, 0), (0, a), (0, b)] [] (sg t v) = xr d 175 39 [(2, 0), (0, a), (0, b)] [(0, b)] (sg t v)) ?_
  refine xs_stp (x_stp (i := .iconst 1) (r := []) rfl rfl rfl : xr d 175 39 [(2, 0), (0, a), (0, b)] [(0, b)] (sg t v) = xr d 175 40 [(2, 0), (0, a), (0, b)] [(0, 1), (0, b)] (sg t v)) ?_
  refine xs_stp (pc' := brc .lt b 1 49 43) (L' := [(2, 0), (0, a), (0, b)]) (S' := []) (x_stp (i := .if_icmp .lt 9) (r := [49]) rfl rfl rfl : xr d 175 40 [(2, 0), (0, a), (0, b)] [(0, 1), (0, b)] (sg t v) = xr d 175 (brc .lt b 1 49 43) [(2, 0), (0, a), (0, b)] [] (sg t v)) ?_
  rw [show brc .lt b 1 49 43 = 43 from if_neg h3]
  refine xs_stp (x_stp (i := .iload_n 2) (r := []) rfl rfl rfl : xr d 175 43 [(2, 0), (0, a), (0, b)] [] (sg t v) = xr d 175 44 [(2, 0), (0, a), (0, b)] [(0, b)] (sg t v)) ?_
  refine xs_stp (x_stp (i := .bipush 12) (r := []) rfl rfl rfl : xr d 175 44 [(2, 0), (0, a), (0, b)] [(0, b)] (sg t v) = xr d 175 46 [(2, 0), (0, a), (0, b)] [(0, 12), (0, b)] (sg t v)) ?_
  refine xs_stp (pc' := brc .le b 12 59 49) (L' := [(2, 0), (0, a), (0, b)]) (S' := []) (x_stp (i := .if_icmp .le 13) (r := [59]) rfl rfl rfl : xr d 175 46 [(2, 0), (0, a), (0, b)] [(0, 12), (0, b)] (sg t v) = xr d 175 (brc .le b 12 59 49) [(2, 0), (0, a), (0, b)] [] (sg t v)) ?_
  rw [show brc .le b 12 59 49 = 49 from if_pos h]
  exact xs_end (i := .new 65) (r := [-9]) rfl rfl
theorem th_178a {t : Int} {d : Nat} {a : Int} {v : Mem} (h : a < 0) : XH t d 178 4 [(2, 0), (0, a)] [] v 19 [(2, 0), (0, a)] [] := by
  refine xs_stp (x_stp (i := .iload_n 1) (r := []) rfl rfl rfl : xr d 178 4 [(2, 0), (0, a)] [] (sg t v) = xr d 178 5 [(2, 0), (0, a)] [(0, a)] (sg t v)) ?_
  refine xs_stp (pc' := brc .lt a 0 19 8) (L' := [(2, 0), (0, a)]) (S' := []) (x_stp (i := .ifCond .lt 14) (r := [19]) rfl rfl rfl : xr d 178 5 [(2, 0), (0, a)] [(0, a)] (sg t v) = xr d 178 (brc .lt a 0 19 8) [(2, 0), (0, a)] [] (sg t v)) ?_
  rw [show brc .lt a 0 19 8 = 19 from if_pos h]
  exact xs_end (i := .new 140) (r := [-9]) rfl rfl
theorem th_176 {t : Int} {d : Nat} {a : Int} {v : Mem} : XH t d 176 0 [(2, 0), (0, a)] [] v 1 [(2, 0), (0, a)] [(2, 0)] := by
  refine xs_stp (x_stp (i := .aload_n 0) (r := []) rfl rfl rfl : xr d 176 0 [(2, 0), (0, a)] [] (sg t v) = xr d 176 1 [(2, 0), (0, a)] [(2, 0)] (sg t v)) ?_
  exact xs_end (i := .invokevirtual 104) (r := [-9]) rfl rfl
theorem th_177 {t : Int} {d : Nat} {a : Int} {v : Mem} : XH t d 177 0 [(2, 0), (0, a)] [] v 1 [(2, 0), (0, a)] [(2, 0)] := by
  refine xs_stp (x_stp (i := .aload_n 0) (r := []) rfl rfl rfl : xr d 177 0 [(2, 0), (0, a)] [] (sg t v) = xr d 177 1 [(2, 0), (0, a)] [(2, 0)] (sg t v)) ?_
  exact xs_end (i := .invokevirtual 104) (r := [-9]) rfl rfl
theorem th_178 {t : Int} {d : Nat} {a : Int} {v : Mem} : XH t d 178 0 [(2, 0), (0, a)] [] v 1 [(2, 0), (0, a)] [(2, 0)] := by
  refine xs_stp (x_stp (i := .aload_n 0) (r := []) rfl rfl rfl : xr d 178 0 [(2, 0), (0, a)] [] (sg t v) = xr d 178 1 [(2, 0), (0, a)] [(2, 0)] (sg t v)) ?_
  exact xs_end (i := .invokevirtual 104) (r := [-9]) rfl rfl
theorem th_179 {t : Int} {d : Nat} {v : Mem} : XH t d 179 0 [(2, 0)] [] v 1 [(2, 0)] [(2, 0)] := by
  refine xs_stp (x_stp (i := .aload_n 0) (r := []) rfl rfl rfl : xr d 179 0 [(2, 0)] [] (sg t v) = xr d 179 1 [(2, 0)] [(2, 0)] (sg t v)) ?_
  exact xs_end (i := .invokevirtual 104) (r := [-9]) rfl rfl
