/-! THE JUDGE, 2: what two operands give. -/
def jg_bw (x y z : Int64) : Int64 := (x ^^^ (-1)) &&& (y ||| z) ||| y &&& z
/-- what comes of the operands P (on top) and Q -/
def jg_op (c : Int32) (P Q : Int64 × Int64 × Int64) : Int64 × Int64 × Int64 :=
  if c == 43 then (Q.1 ^^^ P.1, Q.2.1 ^^^ (P.2.1 ^^^ (P.1 &&& Q.1)), Q.2.2 ^^^ (P.2.2 ^^^ (P.2.1 &&& Q.2.1 ||| (P.1 &&& Q.1) &&& (P.2.1 ^^^ Q.2.1))))
  else if c == 45 then (Q.1 ^^^ P.1, Q.2.1 ^^^ (P.2.1 ^^^ jg_bw P.1 Q.1 0), Q.2.2 ^^^ (P.2.2 ^^^ jg_bw P.2.1 Q.2.1 (jg_bw P.1 Q.1 0)))
  else if c == 42 then (Q.1 &&& P.1, (P.2.1 &&& Q.1) ^^^ (P.1 &&& Q.2.1), (P.2.2 &&& Q.1) ^^^ (P.2.1 &&& Q.2.1) ^^^ (P.1 &&& Q.2.2) ^^^ ((P.2.1 &&& Q.1) &&& (P.1 &&& Q.2.1)))
  else if c == 61 then (((P.1 ^^^ Q.1) ||| (P.2.1 ^^^ Q.2.1) ||| (P.2.2 ^^^ Q.2.2)) ^^^ (-1), Q.2.1, Q.2.2)
  else if c == 60 then (jg_bw P.2.2 Q.2.2 (jg_bw P.2.1 Q.2.1 (jg_bw P.1 Q.1 0)), Q.2.1, Q.2.2)
  else if c == 38 then (Q.1 &&& P.1, Q.2.1, Q.2.2)
  else if c == 124 then (Q.1 ||| P.1, Q.2.1, Q.2.2)
  else (Q.1 ||| (P.1 ^^^ (-1)), Q.2.1, Q.2.2)
/-- the place q has got the value r, all else stays -/
def jg_P (h0 h : ia_H) (F1 F2 F3 : Nat → Int64) (q : Nat) (r : Int64 × Int64 × Int64) (n : Nat) : Prop := ∃ E1 E2 E3 : Nat → Int64, jg_X h0 h E1 E2 E3 n ∧ (E1 q, E2 q, E3 q) = r ∧ ∀ j, j ≠ q → E1 j = F1 j ∧ E2 j = F2 j ∧ E3 j = F3 j
theorem jg_us {F : Nat → Int64} {q : Nat} {x : Int64} : vf_upd F q x q = x := if_pos rfl
theorem jg_un {F : Nat → Int64} {q j : Nat} {x : Int64} (h : j ≠ q) : vf_upd F q x j = F j := if_neg h
theorem jg_P3 {h0 h : ia_H} {F1 F2 F3 : Nat → Int64} {q n : Nat} {x y z : Int64} (hj : jg_X h0 h (vf_upd F1 q x) (vf_upd F2 q y) (vf_upd F3 q z) n) : jg_P h0 h F1 F2 F3 q (x, y, z) n := ⟨_, _, _, hj, by rw [jg_us, jg_us, jg_us], fun j h => ⟨jg_un h, jg_un h, jg_un h⟩⟩
theorem jg_P1 {h0 h : ia_H} {F1 F2 F3 : Nat → Int64} {q n : Nat} {x : Int64} (hj : jg_X h0 h (vf_upd F1 q x) F2 F3 n) : jg_P h0 h F1 F2 F3 q (x, F2 q, F3 q) n := ⟨_, _, _, hj, by rw [jg_us], fun j h => ⟨jg_un h, rfl, rfl⟩⟩
theorem jg_borrow2 {G : ia_G} {h : ia_H} {d : Nat} {x y z : Int64} : ia_Cn pg G kk_J_borrow d 0 0 [.long x, .long y, .long z] h (fun rv h' => rv = some (.long (jg_bw x y z)) ∧ h' = h) := jg_borrow
theorem jg_add {G : ia_G} {h0 : ia_H} {d n p q : Nat} {F1 F2 F3 : Nat → Int64} (hd : 1 ≤ d) (hj0 : jg h0 F1 F2 F3 n) (hp : p < 120) (hq : q < 120) : ia_Cn pg G kk_J_add d 0 0 [.ref 72, .int (nI p), .int (nI q)] h0 (fun rv h => rv = none ∧ jg_P h0 h F1 F2 F3 q (jg_op 43 (F1 p, F2 p, F3 p) (F1 q, F2 q, F3 q)) n) := by
  have hj := hj0.X
  refine jd_met (ls := [.ref 72, .int (nI p), .int (nI q), .retAddr 0, .retAddr 0, .retAddr 0, .retAddr 0]) rfl rfl rfl ?_
  refine ia_go 1 rfl ?_
  refine ia_getf rfl hj.1.1 rfl ?_
  refine ia_go 1 rfl ?_
  first | refine jg_ld1 rfl hj hp ?_ | refine jg_ld1 rfl hj hq ?_ | refine jg_ld2 rfl hj hp ?_ | refine jg_ld2 rfl hj hq ?_ | refine jg_ld3 rfl hj hp ?_ | refine jg_ld3 rfl hj hq ?_
  refine ia_go 1 rfl ?_
  refine ia_getf rfl hj.1.1 rfl ?_
  refine ia_go 1 rfl ?_
  first | refine jg_ld1 rfl hj hp ?_ | refine jg_ld1 rfl hj hq ?_ | refine jg_ld2 rfl hj hp ?_ | refine jg_ld2 rfl hj hq ?_ | refine jg_ld3 rfl hj hp ?_ | refine jg_ld3 rfl hj hq ?_
  refine ia_go 2 rfl ?_
  dsimp only [ia_s1, ia_s2, ia_cl, ia_D, List.getElem?_cons_zero, List.getElem?_cons_succ, List.set_cons_zero, List.set_cons_succ]
  refine ia_go 1 rfl ?_
  refine ia_getf rfl hj.1.1 rfl ?_
  refine ia_go 1 rfl ?_
  first | refine jg_ld1 rfl hj hp ?_ | refine jg_ld1 rfl hj hq ?_ | refine jg_ld2 rfl hj hp ?_ | refine jg_ld2 rfl hj hq ?_ | refine jg_ld3 rfl hj hp ?_ | refine jg_ld3 rfl hj hq ?_
  refine ia_go 1 rfl ?_
  refine ia_getf rfl hj.1.1 rfl ?_
  refine ia_go 1 rfl ?_
  first | refine jg_ld1 rfl hj hp ?_ | refine jg_ld1 rfl hj hq ?_ | refine jg_ld2 rfl hj hp ?_ | refine jg_ld2 rfl hj hq ?_ | refine jg_ld3 rfl hj hp ?_ | refine jg_ld3 rfl hj hq ?_
  refine ia_go 3 rfl ?_
  refine ia_getf rfl hj.1.1 rfl ?_
  refine ia_go 1 rfl ?_
  first | refine jg_ld1 rfl hj hp ?_ | refine jg_ld1 rfl hj hq ?_ | refine jg_ld2 rfl hj hp ?_ | refine jg_ld2 rfl hj hq ?_ | refine jg_ld3 rfl hj hp ?_ | refine jg_ld3 rfl hj hq ?_
  refine ia_go 1 rfl ?_
  refine ia_getf rfl hj.1.1 rfl ?_
  refine ia_go 1 rfl ?_
  first | refine jg_ld1 rfl hj hp ?_ | refine jg_ld1 rfl hj hq ?_ | refine jg_ld2 rfl hj hp ?_ | refine jg_ld2 rfl hj hq ?_ | refine jg_ld3 rfl hj hp ?_ | refine jg_ld3 rfl hj hq ?_
  refine ia_go 4 rfl ?_
  dsimp only [ia_s1, ia_s2, ia_cl, ia_D, List.getElem?_cons_zero, List.getElem?_cons_succ, List.set_cons_zero, List.set_cons_succ]
  refine ia_go 1 rfl ?_
  refine ia_getf rfl hj.1.1 rfl ?_
  refine ia_go 2 rfl ?_
  first | refine jg_ld1 rfl hj hp ?_ | refine jg_ld1 rfl hj hq ?_ | refine jg_ld2 rfl hj hp ?_ | refine jg_ld2 rfl hj hq ?_ | refine jg_ld3 rfl hj hp ?_ | refine jg_ld3 rfl hj hq ?_
  refine ia_go 1 rfl ?_
  refine ia_getf rfl hj.1.1 rfl ?_
  refine ia_go 1 rfl ?_
  first | refine jg_ld1 rfl hj hp ?_ | refine jg_ld1 rfl hj hq ?_ | refine jg_ld2 rfl hj hp ?_ | refine jg_ld2 rfl hj hq ?_ | refine jg_ld3 rfl hj hp ?_ | refine jg_ld3 rfl hj hq ?_
  refine ia_go 1 rfl ?_
  first | refine jg_st1 rfl hj hq (fun h1 hj => ?_) | refine jg_st2 rfl hj hq (fun h1 hj => ?_) | refine jg_st3 rfl hj hq (fun h1 hj => ?_)
  refine ia_go 1 rfl ?_
  refine ia_getf rfl hj.1.1 rfl ?_
  refine ia_go 2 rfl ?_
  first | refine jg_ld1 rfl hj hp ?_ | refine jg_ld1 rfl hj hq ?_ | refine jg_ld2 rfl hj hp ?_ | refine jg_ld2 rfl hj hq ?_ | refine jg_ld3 rfl hj hp ?_ | refine jg_ld3 rfl hj hq ?_
  refine ia_go 1 rfl ?_
  refine ia_getf rfl hj.1.1 rfl ?_
  refine ia_go 1 rfl ?_
  first | refine jg_ld1 rfl hj hp ?_ | refine jg_ld1 rfl hj hq ?_ | refine jg_ld2 rfl hj hp ?_ | refine jg_ld2 rfl hj hq ?_ | refine jg_ld3 rfl hj hp ?_ | refine jg_ld3 rfl hj hq ?_
  refine ia_go 3 rfl ?_
  first | refine jg_st1 rfl hj hq (fun h1 hj => ?_) | refine jg_st2 rfl hj hq (fun h1 hj => ?_) | refine jg_st3 rfl hj hq (fun h1 hj => ?_)
  refine ia_go 1 rfl ?_
  refine ia_getf rfl hj.1.1 rfl ?_
  refine ia_go 2 rfl ?_
  first | refine jg_ld1 rfl hj hp ?_ | refine jg_ld1 rfl hj hq ?_ | refine jg_ld2 rfl hj hp ?_ | refine jg_ld2 rfl hj hq ?_ | refine jg_ld3 rfl hj hp ?_ | refine jg_ld3 rfl hj hq ?_
  refine ia_go 1 rfl ?_
  refine ia_getf rfl hj.1.1 rfl ?_
  refine ia_go 1 rfl ?_
  first | refine jg_ld1 rfl hj hp ?_ | refine jg_ld1 rfl hj hq ?_ | refine jg_ld2 rfl hj hp ?_ | refine jg_ld2 rfl hj hq ?_ | refine jg_ld3 rfl hj hp ?_ | refine jg_ld3 rfl hj hq ?_
  refine ia_go 3 rfl ?_
  first | refine jg_st1 rfl hj hq (fun h1 hj => ?_) | refine jg_st2 rfl hj hq (fun h1 hj => ?_) | refine jg_st3 rfl hj hq (fun h1 hj => ?_)
  exact jd_rv0 rfl rfl rfl ⟨rfl, jg_P3 hj⟩
theorem jg_subtract {G : ia_G} {h0 : ia_H} {d n p q : Nat} {F1 F2 F3 : Nat → Int64} (hd : 1 ≤ d) (hj0 : jg h0 F1 F2 F3 n) (hp : p < 120) (hq : q < 120) : ia_Cn pg G kk_J_subtract d 0 0 [.ref 72, .int (nI p), .int (nI q)] h0 (fun rv h => rv = none ∧ jg_P h0 h F1 F2 F3 q (jg_op 45 (F1 p, F2 p, F3 p) (F1 q, F2 q, F3 q)) n) := by
  have hj := hj0.X
  refine jd_met (ls := [.ref 72, .int (nI p), .int (nI q), .retAddr 0, .retAddr 0, .retAddr 0, .retAddr 0]) rfl rfl rfl ?_
  refine ia_go 1 rfl ?_
  refine ia_getf rfl hj.1.1 rfl ?_
  refine ia_go 1 rfl ?_
  first | refine jg_ld1 rfl hj hp ?_ | refine jg_ld1 rfl hj hq ?_ | refine jg_ld2 rfl hj hp ?_ | refine jg_ld2 rfl hj hq ?_ | refine jg_ld3 rfl hj hp ?_ | refine jg_ld3 rfl hj hq ?_
  refine ia_go 1 rfl ?_
  refine ia_getf rfl hj.1.1 rfl ?_
  refine ia_go 1 rfl ?_
  first | refine jg_ld1 rfl hj hp ?_ | refine jg_ld1 rfl hj hq ?_ | refine jg_ld2 rfl hj hp ?_ | refine jg_ld2 rfl hj hq ?_ | refine jg_ld3 rfl hj hp ?_ | refine jg_ld3 rfl hj hq ?_
  refine ia_go 1 rfl ?_
  refine jd_cS [.long (F1 p), .long (F1 q), .long 0] [] 0 0 (d' := d - 1) rfl rfl rfl rfl rfl (by omega) (by omega) (by omega) (jg_borrow2) ?_
  rintro rv h' ⟨rfl, rfl⟩
  refine ia_go 1 rfl ?_
  dsimp only [ia_s1, ia_s2, ia_cl, ia_D, List.getElem?_cons_zero, List.getElem?_cons_succ, List.set_cons_zero, List.set_cons_succ]
  refine ia_go 1 rfl ?_
  refine ia_getf rfl hj.1.1 rfl ?_
  refine ia_go 1 rfl ?_
  first | refine jg_ld1 rfl hj hp ?_ | refine jg_ld1 rfl hj hq ?_ | refine jg_ld2 rfl hj hp ?_ | refine jg_ld2 rfl hj hq ?_ | refine jg_ld3 rfl hj hp ?_ | refine jg_ld3 rfl hj hq ?_
  refine ia_go 1 rfl ?_
  refine ia_getf rfl hj.1.1 rfl ?_
  refine ia_go 1 rfl ?_
  first | refine jg_ld1 rfl hj hp ?_ | refine jg_ld1 rfl hj hq ?_ | refine jg_ld2 rfl hj hp ?_ | refine jg_ld2 rfl hj hq ?_ | refine jg_ld3 rfl hj hp ?_ | refine jg_ld3 rfl hj hq ?_
  refine ia_go 1 rfl ?_
  refine jd_cS [.long (F2 p), .long (F2 q), .long (jg_bw (F1 p) (F1 q) 0)] [] 0 0 (d' := d - 1) rfl rfl rfl rfl rfl (by omega) (by omega) (by omega) (jg_borrow2) ?_
  rintro rv h' ⟨rfl, rfl⟩
  refine ia_go 1 rfl ?_
  dsimp only [ia_s1, ia_s2, ia_cl, ia_D, List.getElem?_cons_zero, List.getElem?_cons_succ, List.set_cons_zero, List.set_cons_succ]
  refine ia_go 1 rfl ?_
  refine ia_getf rfl hj.1.1 rfl ?_
  refine ia_go 2 rfl ?_
  first | refine jg_ld1 rfl hj hp ?_ | refine jg_ld1 rfl hj hq ?_ | refine jg_ld2 rfl hj hp ?_ | refine jg_ld2 rfl hj hq ?_ | refine jg_ld3 rfl hj hp ?_ | refine jg_ld3 rfl hj hq ?_
  refine ia_go 1 rfl ?_
  refine ia_getf rfl hj.1.1 rfl ?_
  refine ia_go 1 rfl ?_
  first | refine jg_ld1 rfl hj hp ?_ | refine jg_ld1 rfl hj hq ?_ | refine jg_ld2 rfl hj hp ?_ | refine jg_ld2 rfl hj hq ?_ | refine jg_ld3 rfl hj hp ?_ | refine jg_ld3 rfl hj hq ?_
  refine ia_go 1 rfl ?_
  first | refine jg_st1 rfl hj hq (fun h1 hj => ?_) | refine jg_st2 rfl hj hq (fun h1 hj => ?_) | refine jg_st3 rfl hj hq (fun h1 hj => ?_)
  refine ia_go 1 rfl ?_
  refine ia_getf rfl hj.1.1 rfl ?_
  refine ia_go 2 rfl ?_
  first | refine jg_ld1 rfl hj hp ?_ | refine jg_ld1 rfl hj hq ?_ | refine jg_ld2 rfl hj hp ?_ | refine jg_ld2 rfl hj hq ?_ | refine jg_ld3 rfl hj hp ?_ | refine jg_ld3 rfl hj hq ?_
  refine ia_go 1 rfl ?_
  refine ia_getf rfl hj.1.1 rfl ?_
  refine ia_go 1 rfl ?_
  first | refine jg_ld1 rfl hj hp ?_ | refine jg_ld1 rfl hj hq ?_ | refine jg_ld2 rfl hj hp ?_ | refine jg_ld2 rfl hj hq ?_ | refine jg_ld3 rfl hj hp ?_ | refine jg_ld3 rfl hj hq ?_
  refine ia_go 3 rfl ?_
  first | refine jg_st1 rfl hj hq (fun h1 hj => ?_) | refine jg_st2 rfl hj hq (fun h1 hj => ?_) | refine jg_st3 rfl hj hq (fun h1 hj => ?_)
  refine ia_go 1 rfl ?_
  refine ia_getf rfl hj.1.1 rfl ?_
  refine ia_go 2 rfl ?_
  first | refine jg_ld1 rfl hj hp ?_ | refine jg_ld1 rfl hj hq ?_ | refine jg_ld2 rfl hj hp ?_ | refine jg_ld2 rfl hj hq ?_ | refine jg_ld3 rfl hj hp ?_ | refine jg_ld3 rfl hj hq ?_
  refine ia_go 1 rfl ?_
  refine ia_getf rfl hj.1.1 rfl ?_
  refine ia_go 1 rfl ?_
  first | refine jg_ld1 rfl hj hp ?_ | refine jg_ld1 rfl hj hq ?_ | refine jg_ld2 rfl hj hp ?_ | refine jg_ld2 rfl hj hq ?_ | refine jg_ld3 rfl hj hp ?_ | refine jg_ld3 rfl hj hq ?_
  refine ia_go 3 rfl ?_
  first | refine jg_st1 rfl hj hq (fun h1 hj => ?_) | refine jg_st2 rfl hj hq (fun h1 hj => ?_) | refine jg_st3 rfl hj hq (fun h1 hj => ?_)
  exact jd_rv0 rfl rfl rfl ⟨rfl, jg_P3 hj⟩
theorem jg_multiply {G : ia_G} {h0 : ia_H} {d n p q : Nat} {F1 F2 F3 : Nat → Int64} (hd : 1 ≤ d) (hj0 : jg h0 F1 F2 F3 n) (hp : p < 120) (hq : q < 120) : ia_Cn pg G kk_J_multiply d 0 0 [.ref 72, .int (nI p), .int (nI q)] h0 (fun rv h => rv = none ∧ jg_P h0 h F1 F2 F3 q (jg_op 42 (F1 p, F2 p, F3 p) (F1 q, F2 q, F3 q)) n) := by
  have hj := hj0.X
  refine jd_met (ls := [.ref 72, .int (nI p), .int (nI q), .retAddr 0, .retAddr 0, .retAddr 0, .retAddr 0, .retAddr 0, .retAddr 0]) rfl rfl rfl ?_
  refine ia_go 1 rfl ?_
  refine ia_getf rfl hj.1.1 rfl ?_
  refine ia_go 1 rfl ?_
  first | refine jg_ld1 rfl hj hp ?_ | refine jg_ld1 rfl hj hq ?_ | refine jg_ld2 rfl hj hp ?_ | refine jg_ld2 rfl hj hq ?_ | refine jg_ld3 rfl hj hp ?_ | refine jg_ld3 rfl hj hq ?_
  refine ia_go 1 rfl ?_
  refine ia_getf rfl hj.1.1 rfl ?_
  refine ia_go 1 rfl ?_
  first | refine jg_ld1 rfl hj hp ?_ | refine jg_ld1 rfl hj hq ?_ | refine jg_ld2 rfl hj hp ?_ | refine jg_ld2 rfl hj hq ?_ | refine jg_ld3 rfl hj hp ?_ | refine jg_ld3 rfl hj hq ?_
  refine ia_go 2 rfl ?_
  dsimp only [ia_s1, ia_s2, ia_cl, ia_D, List.getElem?_cons_zero, List.getElem?_cons_succ, List.set_cons_zero, List.set_cons_succ]
  refine ia_go 1 rfl ?_
  refine ia_getf rfl hj.1.1 rfl ?_
  refine ia_go 1 rfl ?_
  first | refine jg_ld1 rfl hj hp ?_ | refine jg_ld1 rfl hj hq ?_ | refine jg_ld2 rfl hj hp ?_ | refine jg_ld2 rfl hj hq ?_ | refine jg_ld3 rfl hj hp ?_ | refine jg_ld3 rfl hj hq ?_
  refine ia_go 1 rfl ?_
  refine ia_getf rfl hj.1.1 rfl ?_
  refine ia_go 1 rfl ?_
  first | refine jg_ld1 rfl hj hp ?_ | refine jg_ld1 rfl hj hq ?_ | refine jg_ld2 rfl hj hp ?_ | refine jg_ld2 rfl hj hq ?_ | refine jg_ld3 rfl hj hp ?_ | refine jg_ld3 rfl hj hq ?_
  refine ia_go 2 rfl ?_
  dsimp only [ia_s1, ia_s2, ia_cl, ia_D, List.getElem?_cons_zero, List.getElem?_cons_succ, List.set_cons_zero, List.set_cons_succ]
  refine ia_go 1 rfl ?_
  refine ia_getf rfl hj.1.1 rfl ?_
  refine ia_go 1 rfl ?_
  first | refine jg_ld1 rfl hj hp ?_ | refine jg_ld1 rfl hj hq ?_ | refine jg_ld2 rfl hj hp ?_ | refine jg_ld2 rfl hj hq ?_ | refine jg_ld3 rfl hj hp ?_ | refine jg_ld3 rfl hj hq ?_
  refine ia_go 1 rfl ?_
  refine ia_getf rfl hj.1.1 rfl ?_
  refine ia_go 1 rfl ?_
  first | refine jg_ld1 rfl hj hp ?_ | refine jg_ld1 rfl hj hq ?_ | refine jg_ld2 rfl hj hp ?_ | refine jg_ld2 rfl hj hq ?_ | refine jg_ld3 rfl hj hp ?_ | refine jg_ld3 rfl hj hq ?_
  refine ia_go 2 rfl ?_
  refine ia_getf rfl hj.1.1 rfl ?_
  refine ia_go 1 rfl ?_
  first | refine jg_ld1 rfl hj hp ?_ | refine jg_ld1 rfl hj hq ?_ | refine jg_ld2 rfl hj hp ?_ | refine jg_ld2 rfl hj hq ?_ | refine jg_ld3 rfl hj hp ?_ | refine jg_ld3 rfl hj hq ?_
  refine ia_go 1 rfl ?_
  refine ia_getf rfl hj.1.1 rfl ?_
  refine ia_go 1 rfl ?_
  first | refine jg_ld1 rfl hj hp ?_ | refine jg_ld1 rfl hj hq ?_ | refine jg_ld2 rfl hj hp ?_ | refine jg_ld2 rfl hj hq ?_ | refine jg_ld3 rfl hj hp ?_ | refine jg_ld3 rfl hj hq ?_
  refine ia_go 3 rfl ?_
  refine ia_getf rfl hj.1.1 rfl ?_
  refine ia_go 1 rfl ?_
  first | refine jg_ld1 rfl hj hp ?_ | refine jg_ld1 rfl hj hq ?_ | refine jg_ld2 rfl hj hp ?_ | refine jg_ld2 rfl hj hq ?_ | refine jg_ld3 rfl hj hp ?_ | refine jg_ld3 rfl hj hq ?_
  refine ia_go 1 rfl ?_
  refine ia_getf rfl hj.1.1 rfl ?_
  refine ia_go 1 rfl ?_
  first | refine jg_ld1 rfl hj hp ?_ | refine jg_ld1 rfl hj hq ?_ | refine jg_ld2 rfl hj hp ?_ | refine jg_ld2 rfl hj hq ?_ | refine jg_ld3 rfl hj hp ?_ | refine jg_ld3 rfl hj hq ?_
  refine ia_go 3 rfl ?_
  dsimp only [ia_s1, ia_s2, ia_cl, ia_D, List.getElem?_cons_zero, List.getElem?_cons_succ, List.set_cons_zero, List.set_cons_succ]
  refine ia_go 1 rfl ?_
  refine ia_getf rfl hj.1.1 rfl ?_
  refine ia_go 2 rfl ?_
  first | refine jg_ld1 rfl hj hp ?_ | refine jg_ld1 rfl hj hq ?_ | refine jg_ld2 rfl hj hp ?_ | refine jg_ld2 rfl hj hq ?_ | refine jg_ld3 rfl hj hp ?_ | refine jg_ld3 rfl hj hq ?_
  refine ia_go 1 rfl ?_
  refine ia_getf rfl hj.1.1 rfl ?_
  refine ia_go 1 rfl ?_
  first | refine jg_ld1 rfl hj hp ?_ | refine jg_ld1 rfl hj hq ?_ | refine jg_ld2 rfl hj hp ?_ | refine jg_ld2 rfl hj hq ?_ | refine jg_ld3 rfl hj hp ?_ | refine jg_ld3 rfl hj hq ?_
  refine ia_go 1 rfl ?_
  first | refine jg_st1 rfl hj hq (fun h1 hj => ?_) | refine jg_st2 rfl hj hq (fun h1 hj => ?_) | refine jg_st3 rfl hj hq (fun h1 hj => ?_)
  refine ia_go 1 rfl ?_
  refine ia_getf rfl hj.1.1 rfl ?_
  refine ia_go 4 rfl ?_
  first | refine jg_st1 rfl hj hq (fun h1 hj => ?_) | refine jg_st2 rfl hj hq (fun h1 hj => ?_) | refine jg_st3 rfl hj hq (fun h1 hj => ?_)
  refine ia_go 1 rfl ?_
  refine ia_getf rfl hj.1.1 rfl ?_
  refine ia_go 6 rfl ?_
  first | refine jg_st1 rfl hj hq (fun h1 hj => ?_) | refine jg_st2 rfl hj hq (fun h1 hj => ?_) | refine jg_st3 rfl hj hq (fun h1 hj => ?_)
  exact jd_rv0 rfl rfl rfl ⟨rfl, jg_P3 hj⟩
theorem jg_compare {G : ia_G} {h0 : ia_H} {d n p q : Nat} {F1 F2 F3 : Nat → Int64} (hd : 1 ≤ d) (hj0 : jg h0 F1 F2 F3 n) (hp : p < 120) (hq : q < 120) : ia_Cn pg G kk_J_compare d 0 0 [.ref 72, .int (nI p), .int (nI q)] h0 (fun rv h => rv = none ∧ jg_P h0 h F1 F2 F3 q (jg_op 60 (F1 p, F2 p, F3 p) (F1 q, F2 q, F3 q)) n) := by
  have hj := hj0.X
  refine jd_met (ls := [.ref 72, .int (nI p), .int (nI q), .retAddr 0, .retAddr 0, .retAddr 0, .retAddr 0]) rfl rfl rfl ?_
  refine ia_go 1 rfl ?_
  refine ia_getf rfl hj.1.1 rfl ?_
  refine ia_go 1 rfl ?_
  first | refine jg_ld1 rfl hj hp ?_ | refine jg_ld1 rfl hj hq ?_ | refine jg_ld2 rfl hj hp ?_ | refine jg_ld2 rfl hj hq ?_ | refine jg_ld3 rfl hj hp ?_ | refine jg_ld3 rfl hj hq ?_
  refine ia_go 1 rfl ?_
  refine ia_getf rfl hj.1.1 rfl ?_
  refine ia_go 1 rfl ?_
  first | refine jg_ld1 rfl hj hp ?_ | refine jg_ld1 rfl hj hq ?_ | refine jg_ld2 rfl hj hp ?_ | refine jg_ld2 rfl hj hq ?_ | refine jg_ld3 rfl hj hp ?_ | refine jg_ld3 rfl hj hq ?_
  refine ia_go 1 rfl ?_
  refine jd_cS [.long (F1 p), .long (F1 q), .long 0] [] 0 0 (d' := d - 1) rfl rfl rfl rfl rfl (by omega) (by omega) (by omega) (jg_borrow2) ?_
  rintro rv h' ⟨rfl, rfl⟩
  refine ia_go 1 rfl ?_
  dsimp only [ia_s1, ia_s2, ia_cl, ia_D, List.getElem?_cons_zero, List.getElem?_cons_succ, List.set_cons_zero, List.set_cons_succ]
  refine ia_go 1 rfl ?_
  refine ia_getf rfl hj.1.1 rfl ?_
  refine ia_go 1 rfl ?_
  first | refine jg_ld1 rfl hj hp ?_ | refine jg_ld1 rfl hj hq ?_ | refine jg_ld2 rfl hj hp ?_ | refine jg_ld2 rfl hj hq ?_ | refine jg_ld3 rfl hj hp ?_ | refine jg_ld3 rfl hj hq ?_
  refine ia_go 1 rfl ?_
  refine ia_getf rfl hj.1.1 rfl ?_
  refine ia_go 1 rfl ?_
  first | refine jg_ld1 rfl hj hp ?_ | refine jg_ld1 rfl hj hq ?_ | refine jg_ld2 rfl hj hp ?_ | refine jg_ld2 rfl hj hq ?_ | refine jg_ld3 rfl hj hp ?_ | refine jg_ld3 rfl hj hq ?_
  refine ia_go 1 rfl ?_
  refine jd_cS [.long (F2 p), .long (F2 q), .long (jg_bw (F1 p) (F1 q) 0)] [] 0 0 (d' := d - 1) rfl rfl rfl rfl rfl (by omega) (by omega) (by omega) (jg_borrow2) ?_
  rintro rv h' ⟨rfl, rfl⟩
  refine ia_go 1 rfl ?_
  dsimp only [ia_s1, ia_s2, ia_cl, ia_D, List.getElem?_cons_zero, List.getElem?_cons_succ, List.set_cons_zero, List.set_cons_succ]
  refine ia_go 1 rfl ?_
  refine ia_getf rfl hj.1.1 rfl ?_
  refine ia_go 2 rfl ?_
  refine ia_getf rfl hj.1.1 rfl ?_
  refine ia_go 1 rfl ?_
  first | refine jg_ld1 rfl hj hp ?_ | refine jg_ld1 rfl hj hq ?_ | refine jg_ld2 rfl hj hp ?_ | refine jg_ld2 rfl hj hq ?_ | refine jg_ld3 rfl hj hp ?_ | refine jg_ld3 rfl hj hq ?_
  refine ia_go 1 rfl ?_
  refine ia_getf rfl hj.1.1 rfl ?_
  refine ia_go 1 rfl ?_
  first | refine jg_ld1 rfl hj hp ?_ | refine jg_ld1 rfl hj hq ?_ | refine jg_ld2 rfl hj hp ?_ | refine jg_ld2 rfl hj hq ?_ | refine jg_ld3 rfl hj hp ?_ | refine jg_ld3 rfl hj hq ?_
  refine ia_go 1 rfl ?_
  refine jd_cS [.long (F3 p), .long (F3 q), .long (jg_bw (F2 p) (F2 q) (jg_bw (F1 p) (F1 q) 0))] [.int (nI q), .ref 73] 0 0 (d' := d - 1) rfl rfl rfl rfl rfl (by omega) (by omega) (by omega) (jg_borrow2) ?_
  rintro rv h' ⟨rfl, rfl⟩
  first | refine jg_st1 rfl hj hq (fun h1 hj => ?_) | refine jg_st2 rfl hj hq (fun h1 hj => ?_) | refine jg_st3 rfl hj hq (fun h1 hj => ?_)
  exact jd_rv0 rfl rfl rfl ⟨rfl, jg_P1 hj⟩
