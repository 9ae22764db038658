/-! THE JUDGE, 3: join. -/
theorem jg_join {G : ia_G} {h0 : ia_H} {d n : Nat} {F1 F2 F3 : Nat → Int64} {c : Int32} (hd : 2 ≤ d) (hj0 : jg h0 F1 F2 F3 n) (hn : 2 ≤ n) (hc : c = 43 ∨ c = 45 ∨ c = 42 ∨ c = 61 ∨ c = 60 ∨ c = 38 ∨ c = 124 ∨ c = 62) : ia_Cn pg G kk_J_join d 0 0 [.ref 72, .int c] h0 (fun rv h => rv = none ∧ jg_P h0 h F1 F2 F3 (n - 2) (jg_op c (F1 (n - 1), F2 (n - 1), F3 (n - 1)) (F1 (n - 2), F2 (n - 2), F3 (n - 2))) (n - 1)) := by
  have hj := hj0.X
  have hle := hj0.2.2.2.2
  have hp : n - 1 < 120 := by omega
  have hq : n - 2 < 120 := by omega
  refine jd_met (ls := [.ref 72, .int c, .retAddr 0, .retAddr 0]) rfl rfl rfl ?_
  refine ia_go 1 rfl ?_
  refine ia_getf rfl hj.1.1 rfl ?_
  refine ia_go 2 rfl ?_
  rw [if_pos (show (2 : Int32) ≤ nI n from nI_le (a := 2) hn (by omega))]
  refine ia_go 2 rfl ?_
  refine ia_getf rfl hj.1.1 rfl ?_
  refine ia_go 2 rfl ?_
  rw [show nI n - 1 = nI (n - 1) from jd_sub (b := 1) (by omega)]
  refine jg_ht rfl hj (by omega) (fun h1 hj => ?_)
  refine ia_go 1 rfl ?_
  refine ia_getf rfl hj.1.1 rfl ?_
  refine ia_go 1 rfl ?_
  dsimp only [ia_s1, ia_s2, ia_cl, ia_D, List.getElem?_cons_zero, List.getElem?_cons_succ, List.set_cons_zero, List.set_cons_succ]
  refine ia_go 1 rfl ?_
  refine ia_getf rfl hj.1.1 rfl ?_
  refine ia_go 3 rfl ?_
  dsimp only [ia_s1, ia_s2, ia_cl, ia_D, List.getElem?_cons_zero, List.getElem?_cons_succ, List.set_cons_zero, List.set_cons_succ]
  rw [show nI (n - 1) - 1 = nI (n - 2) from jd_sub (a := n - 1) (b := 1) (by omega)]
  rcases hc with rfl | rfl | rfl | rfl | rfl | rfl | rfl | rfl
  ·
    refine ia_go 2 rfl ?_
    skip
    refine ia_go 3 rfl ?_
    refine jd_cV 72 [.int (nI (n - 1)), .int (nI (n - 2))] [] 0 0 (d' := d - 1) rfl rfl rfl hj.1.1 rfl rfl (by omega) (by omega) (by omega) (jg_add (by omega) hj.1 hp hq) ?_
    rintro rv h2 ⟨rfl, E1, E2, E3, hE, hr, ho⟩
    refine ia_go 1 rfl ?_
    exact jd_rv0 rfl rfl rfl ⟨rfl, E1, E2, E3, hj.tr hE, hr, ho⟩
  ·
    refine ia_go 2 rfl ?_
    skip
    refine ia_go 3 rfl ?_
    refine jd_cV 72 [.int (nI (n - 1)), .int (nI (n - 2))] [] 0 0 (d' := d - 1) rfl rfl rfl hj.1.1 rfl rfl (by omega) (by omega) (by omega) (jg_subtract (by omega) hj.1 hp hq) ?_
    rintro rv h2 ⟨rfl, E1, E2, E3, hE, hr, ho⟩
    refine ia_go 1 rfl ?_
    exact jd_rv0 rfl rfl rfl ⟨rfl, E1, E2, E3, hj.tr hE, hr, ho⟩
  ·
    refine ia_go 2 rfl ?_
    skip
    refine ia_go 3 rfl ?_
    refine jd_cV 72 [.int (nI (n - 1)), .int (nI (n - 2))] [] 0 0 (d' := d - 1) rfl rfl rfl hj.1.1 rfl rfl (by omega) (by omega) (by omega) (jg_multiply (by omega) hj.1 hp hq) ?_
    rintro rv h2 ⟨rfl, E1, E2, E3, hE, hr, ho⟩
    refine ia_go 1 rfl ?_
    exact jd_rv0 rfl rfl rfl ⟨rfl, E1, E2, E3, hj.tr hE, hr, ho⟩
  ·
    refine ia_go 2 rfl ?_
    skip
    refine ia_go 1 rfl ?_
    refine ia_getf rfl hj.1.1 rfl ?_
    refine ia_go 2 rfl ?_
    refine ia_getf rfl hj.1.1 rfl ?_
    refine ia_go 1 rfl ?_
    first | refine jg_ld1 rfl hj hp ?_ | refine jg_ld1 rfl hj hq ?_ | refine jg_ld2 rfl hj hp ?_ | refine jg_ld2 rfl hj hq ?_ | refine jg_ld3 rfl hj hp ?_ | refine jg_ld3 rfl hj hq ?_
    refine ia_go 1 rfl ?_
    refine ia_getf rfl hj.1.1 rfl ?_
    refine ia_go 1 rfl ?_
    first | refine jg_ld1 rfl hj hp ?_ | refine jg_ld1 rfl hj hq ?_ | refine jg_ld2 rfl hj hp ?_ | refine jg_ld2 rfl hj hq ?_ | refine jg_ld3 rfl hj hp ?_ | refine jg_ld3 rfl hj hq ?_
    refine ia_go 2 rfl ?_
    refine ia_getf rfl hj.1.1 rfl ?_
    refine ia_go 1 rfl ?_
    first | refine jg_ld1 rfl hj hp ?_ | refine jg_ld1 rfl hj hq ?_ | refine jg_ld2 rfl hj hp ?_ | refine jg_ld2 rfl hj hq ?_ | refine jg_ld3 rfl hj hp ?_ | refine jg_ld3 rfl hj hq ?_
    refine ia_go 1 rfl ?_
    refine ia_getf rfl hj.1.1 rfl ?_
    refine ia_go 1 rfl ?_
    first | refine jg_ld1 rfl hj hp ?_ | refine jg_ld1 rfl hj hq ?_ | refine jg_ld2 rfl hj hp ?_ | refine jg_ld2 rfl hj hq ?_ | refine jg_ld3 rfl hj hp ?_ | refine jg_ld3 rfl hj hq ?_
    refine ia_go 3 rfl ?_
    refine ia_getf rfl hj.1.1 rfl ?_
    refine ia_go 1 rfl ?_
    first | refine jg_ld1 rfl hj hp ?_ | refine jg_ld1 rfl hj hq ?_ | refine jg_ld2 rfl hj hp ?_ | refine jg_ld2 rfl hj hq ?_ | refine jg_ld3 rfl hj hp ?_ | refine jg_ld3 rfl hj hq ?_
    refine ia_go 1 rfl ?_
    refine ia_getf rfl hj.1.1 rfl ?_
    refine ia_go 1 rfl ?_
    first | refine jg_ld1 rfl hj hp ?_ | refine jg_ld1 rfl hj hq ?_ | refine jg_ld2 rfl hj hp ?_ | refine jg_ld2 rfl hj hq ?_ | refine jg_ld3 rfl hj hp ?_ | refine jg_ld3 rfl hj hq ?_
    refine ia_go 2 rfl ?_
    refine ia_ldc2 rfl ?_
    refine ia_go 1 rfl ?_
    refine jg_st1 rfl hj hq (fun h1 hj => ?_)
    refine ia_go 1 rfl ?_
    exact jd_rv0 rfl rfl rfl ⟨rfl, jg_P1 hj⟩
  ·
    refine ia_go 2 rfl ?_
    skip
    refine ia_go 3 rfl ?_
    refine jd_cV 72 [.int (nI (n - 1)), .int (nI (n - 2))] [] 0 0 (d' := d - 1) rfl rfl rfl hj.1.1 rfl rfl (by omega) (by omega) (by omega) (jg_compare (by omega) hj.1 hp hq) ?_
    rintro rv h2 ⟨rfl, E1, E2, E3, hE, hr, ho⟩
    refine ia_go 1 rfl ?_
    exact jd_rv0 rfl rfl rfl ⟨rfl, E1, E2, E3, hj.tr hE, hr, ho⟩
  ·
    refine ia_go 2 rfl ?_
    skip
    refine ia_go 1 rfl ?_
    refine ia_getf rfl hj.1.1 rfl ?_
    refine ia_go 2 rfl ?_
    first | refine jg_ld1 rfl hj hp ?_ | refine jg_ld1 rfl hj hq ?_ | refine jg_ld2 rfl hj hp ?_ | refine jg_ld2 rfl hj hq ?_ | refine jg_ld3 rfl hj hp ?_ | refine jg_ld3 rfl hj hq ?_
    refine ia_go 1 rfl ?_
    refine ia_getf rfl hj.1.1 rfl ?_
    refine ia_go 1 rfl ?_
    first | refine jg_ld1 rfl hj hp ?_ | refine jg_ld1 rfl hj hq ?_ | refine jg_ld2 rfl hj hp ?_ | refine jg_ld2 rfl hj hq ?_ | refine jg_ld3 rfl hj hp ?_ | refine jg_ld3 rfl hj hq ?_
    refine ia_go 1 rfl ?_
    refine jg_st1 rfl hj hq (fun h1 hj => ?_)
    refine ia_go 1 rfl ?_
    exact jd_rv0 rfl rfl rfl ⟨rfl, jg_P1 hj⟩
  ·
    refine ia_go 2 rfl ?_
    skip
    refine ia_go 1 rfl ?_
    refine ia_getf rfl hj.1.1 rfl ?_
    refine ia_go 2 rfl ?_
    first | refine jg_ld1 rfl hj hp ?_ | refine jg_ld1 rfl hj hq ?_ | refine jg_ld2 rfl hj hp ?_ | refine jg_ld2 rfl hj hq ?_ | refine jg_ld3 rfl hj hp ?_ | refine jg_ld3 rfl hj hq ?_
    refine ia_go 1 rfl ?_
    refine ia_getf rfl hj.1.1 rfl ?_
    refine ia_go 1 rfl ?_
    first | refine jg_ld1 rfl hj hp ?_ | refine jg_ld1 rfl hj hq ?_ | refine jg_ld2 rfl hj hp ?_ | refine jg_ld2 rfl hj hq ?_ | refine jg_ld3 rfl hj hp ?_ | refine jg_ld3 rfl hj hq ?_
    refine ia_go 1 rfl ?_
    refine jg_st1 rfl hj hq (fun h1 hj => ?_)
    refine ia_go 1 rfl ?_
    exact jd_rv0 rfl rfl rfl ⟨rfl, jg_P1 hj⟩
  ·
    refine ia_go 2 rfl ?_
    skip
    refine ia_go 1 rfl ?_
    refine ia_getf rfl hj.1.1 rfl ?_
    refine ia_go 2 rfl ?_
    first | refine jg_ld1 rfl hj hp ?_ | refine jg_ld1 rfl hj hq ?_ | refine jg_ld2 rfl hj hp ?_ | refine jg_ld2 rfl hj hq ?_ | refine jg_ld3 rfl hj hp ?_ | refine jg_ld3 rfl hj hq ?_
    refine ia_go 1 rfl ?_
    refine ia_getf rfl hj.1.1 rfl ?_
    refine ia_go 1 rfl ?_
    first | refine jg_ld1 rfl hj hp ?_ | refine jg_ld1 rfl hj hq ?_ | refine jg_ld2 rfl hj hp ?_ | refine jg_ld2 rfl hj hq ?_ | refine jg_ld3 rfl hj hp ?_ | refine jg_ld3 rfl hj hq ?_
    refine ia_ldc2 rfl ?_
    refine ia_go 2 rfl ?_
    refine jg_st1 rfl hj hq (fun h1 hj => ?_)
    exact jd_rv0 rfl rfl rfl ⟨rfl, jg_P1 hj⟩
