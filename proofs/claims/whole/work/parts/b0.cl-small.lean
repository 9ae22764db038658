/-! THE CLASS, 1: small methods. -/
theorem cl_hasX {G : ia_G} {h : ia_H} {d s a : Nat} {t : List Int32} (hd : 4 ≤ d) (hs : h.1 s = some (.inr (6, [.ref a]))) (hT : sx_t h a t) : ia_Cn pg G kk_S_hasX d 0 0 [.ref s] h (fun rv h' => h' = h ∧ ∃ b, rv = some (.int b) ∧ bn ((120 : Int32) ∈ t) b) := by
  obtain ⟨w, r, f, ha, -⟩ := id hT
  refine jd_met (ls := [.ref s]) rfl rfl rfl ?_
  refine ia_go 1 rfl ?_
  refine ia_getf rfl hs rfl ?_
  refine ia_go 1 rfl ?_
  refine jd_cV a [.int 120] [] 0 0 (d' := d - 1) rfl rfl rfl ha rfl rfl (by omega) (by omega) (by omega) (jd_idx (by omega) hT) ?_
  rintro rv h' ⟨⟨r, rfl, hr⟩, hh⟩
  refine ia_go 1 rfl ?_
  subst hh
  by_cases hx : r < 0
  · rw [if_pos hx]
    refine ia_go 1 rfl ?_
    exact jd_rv1 rfl rfl rfl rfl ⟨rfl, 0, rfl, Or.inr ⟨rfl, fun z => absurd (hr.mpr z) (Int32.not_le.mpr hx)⟩⟩
  · rw [if_neg hx]
    refine ia_go 2 rfl ?_
    exact jd_rv1 rfl rfl rfl rfl ⟨rfl, 1, rfl, Or.inl ⟨rfl, hr.mp (Int32.not_lt.mp hx)⟩⟩
theorem cl_may {G : ia_G} {h : ia_H} {d x : Nat} {fs : List Value} {fr v : Int32} (hx : h.1 x = some (.inr (5, fs))) (hf : fs[1]? = some (.int fr)) : ia_Cn pg G kk_N_mayChange d 0 0 [.ref x, .int v] h (fun rv h' => h' = h ∧ ∃ b, rv = some (.int b) ∧ bn (0 ≤ v ∧ v ≤ 2 ∧ fr >>> (v &&& 31) &&& 1 = 1) b) := by
  by_cases h1 : v < 0
  ·
    refine jd_met (ls := [.ref x, .int v]) rfl rfl rfl ?_
    refine ia_go 2 rfl ?_
    rw [if_pos h1]
    refine ia_go 1 rfl ?_
    exact jd_rv1 rfl rfl rfl rfl ⟨rfl, 0, rfl, Or.inr ⟨rfl, fun z => absurd z.1 (Int32.not_le.mpr h1)⟩⟩
  by_cases h2 : 2 < v
  ·
    refine jd_met (ls := [.ref x, .int v]) rfl rfl rfl ?_
    refine ia_go 2 rfl ?_
    rw [if_neg h1]
    refine ia_go 3 rfl ?_
    rw [if_pos h2]
    refine ia_go 1 rfl ?_
    exact jd_rv1 rfl rfl rfl rfl ⟨rfl, 0, rfl, Or.inr ⟨rfl, fun z => absurd z.2.1 (Int32.not_le.mpr h2)⟩⟩
  by_cases h3 : fr >>> (v &&& 31) &&& 1 = 1
  ·
    refine jd_met (ls := [.ref x, .int v]) rfl rfl rfl ?_
    refine ia_go 2 rfl ?_
    rw [if_neg h1]
    refine ia_go 3 rfl ?_
    rw [if_neg h2]
    refine ia_go 1 rfl ?_
    refine ia_getf rfl hx hf ?_
    refine ia_go 6 rfl ?_
    rw [if_neg (fun z => z h3)]
    refine ia_go 2 rfl ?_
    exact jd_rv1 rfl rfl rfl rfl ⟨rfl, 1, rfl, Or.inl ⟨rfl, Int32.not_lt.mp h1, Int32.not_lt.mp h2, h3⟩⟩
  ·
    refine jd_met (ls := [.ref x, .int v]) rfl rfl rfl ?_
    refine ia_go 2 rfl ?_
    rw [if_neg h1]
    refine ia_go 3 rfl ?_
    rw [if_neg h2]
    refine ia_go 1 rfl ?_
    refine ia_getf rfl hx hf ?_
    refine ia_go 6 rfl ?_
    rw [if_pos h3]
    refine ia_go 1 rfl ?_
    exact jd_rv1 rfl rfl rfl rfl ⟨rfl, 0, rfl, Or.inr ⟨rfl, fun z => h3 z.2.2⟩⟩
theorem cl_num0 {G : ia_G} {h : ia_H} {d : Nat} : ia_Cn pg G kk_R_numberOf d 0 0 [.null] h (fun rv h' => rv = some (.int 0) ∧ h' = h) := by
  refine jd_met (ls := [.null]) rfl rfl rfl ?_
  refine ia_go 2 rfl ?_
  refine ia_go 2 rfl ?_
  exact jd_rv1 rfl rfl rfl trivial ⟨rfl, rfl⟩
theorem cl_num1 {G : ia_G} {h : ia_H} {d x : Nat} {fs : List Value} {k : Int32} (hx : h.1 x = some (.inr (5, fs))) (hf : fs[4]? = some (.int k)) : ia_Cn pg G kk_R_numberOf d 0 0 [.ref x] h (fun rv h' => rv = some (.int k) ∧ h' = h) := by
  refine jd_met (ls := [.ref x]) rfl rfl rfl ?_
  refine ia_go 2 rfl ?_
  refine ia_go 1 rfl ?_
  refine ia_getf rfl hx hf ?_
  exact jd_rv1 rfl rfl rfl trivial ⟨rfl, rfl⟩
theorem cl_cc0 {G : ia_G} {h : ia_H} {d s : Nat} {l k1 k2 o vv pt : Value} (hs : h.1 s = some (.inr (7, [l, k1, k2, .null, .null, o, vv, pt]))) : ia_Cn pg G kk_P_countConditions d 0 0 [.ref s] h (fun rv h' => rv = some (.int (nI 0)) ∧ h' = h) := by
  refine jd_met (ls := [.ref s]) rfl rfl rfl ?_
  refine ia_go 1 rfl ?_
  refine ia_getf rfl hs rfl ?_
  refine ia_go 1 rfl ?_
  refine ia_go 3 rfl ?_
  refine ia_getf rfl hs rfl ?_
  refine ia_go 1 rfl ?_
  refine ia_go 3 rfl ?_
  exact jd_rv1 rfl rfl rfl trivial ⟨rfl, rfl⟩
theorem cl_cc1 {G : ia_G} {h : ia_H} {d s a : Nat} {l k1 k2 o vv pt : Value} (hs : h.1 s = some (.inr (7, [l, k1, k2, .ref a, .null, o, vv, pt]))) : ia_Cn pg G kk_P_countConditions d 0 0 [.ref s] h (fun rv h' => rv = some (.int (nI 1)) ∧ h' = h) := by
  refine jd_met (ls := [.ref s]) rfl rfl rfl ?_
  refine ia_go 1 rfl ?_
  refine ia_getf rfl hs rfl ?_
  refine ia_go 1 rfl ?_
  refine ia_go 2 rfl ?_
  refine ia_getf rfl hs rfl ?_
  refine ia_go 1 rfl ?_
  refine ia_go 3 rfl ?_
  exact jd_rv1 rfl rfl rfl trivial ⟨rfl, rfl⟩
theorem cl_cc2 {G : ia_G} {h : ia_H} {d s a b : Nat} {l k1 k2 o vv pt : Value} (hs : h.1 s = some (.inr (7, [l, k1, k2, .ref a, .ref b, o, vv, pt]))) : ia_Cn pg G kk_P_countConditions d 0 0 [.ref s] h (fun rv h' => rv = some (.int (nI 2)) ∧ h' = h) := by
  refine jd_met (ls := [.ref s]) rfl rfl rfl ?_
  refine ia_go 1 rfl ?_
  refine ia_getf rfl hs rfl ?_
  refine ia_go 1 rfl ?_
  refine ia_go 2 rfl ?_
  refine ia_getf rfl hs rfl ?_
  refine ia_go 1 rfl ?_
  refine ia_go 2 rfl ?_
  exact jd_rv1 rfl rfl rfl trivial ⟨rfl, rfl⟩
theorem cl_cc {G : ia_G} {h : ia_H} {d u v s : Nat} {na : Nat → Nat} {x : nN} (y : cx_st h u v na x s) : ia_Cn pg G kk_P_countConditions d 0 0 [.ref s] h (fun rv h' => rv = some (.int (nI (ncw (zL x)))) ∧ h' = h) := by
  obtain ⟨c1, c2, vv, pt, e, y1, y2, -⟩ := y
  have hn := ncw_le (zL x)
  rcases (show ncw (zL x) = 0 ∨ ncw (zL x) = 1 ∨ ncw (zL x) = 2 by omega) with z | z | z
  · obtain rfl := y1.2 (by omega)
    obtain rfl := y2.2 (by omega)
    rw [z]; exact cl_cc0 e
  · obtain ⟨a, rfl, -⟩ := y1.1 (by omega)
    obtain rfl := y2.2 (by omega)
    rw [z]; exact cl_cc1 e
  · obtain ⟨a, rfl, -⟩ := y1.1 (by omega)
    obtain ⟨b, rfl, -⟩ := y2.1 (by omega)
    rw [z]; exact cl_cc2 e
theorem cl_ck {G : ia_G} {h : ia_H} {d s n : Nat} {l k1 k2 c1 c2 o vv pt : Value} (hs : h.1 s = some (.inr (7, [l, k1, k2, c1, c2, o, vv, pt]))) (hk : (n = 0 ∧ k1 = .null ∧ k2 = .null) ∨ (n = 1 ∧ (∃ a, k1 = .ref a) ∧ k2 = .null) ∨ (n = 2 ∧ (∃ a, k1 = .ref a) ∧ ∃ b, k2 = .ref b)) : ia_Cn pg G kk_P_countChildren d 0 0 [.ref s] h (fun rv h' => rv = some (.int (nI n)) ∧ h' = h) := by
  rcases hk with ⟨rfl, rfl, rfl⟩ | ⟨rfl, ⟨a, rfl⟩, rfl⟩ | ⟨rfl, ⟨a, rfl⟩, b, rfl⟩
  ·
    refine jd_met (ls := [.ref s]) rfl rfl rfl ?_
    refine ia_go 1 rfl ?_
    refine ia_getf rfl hs rfl ?_
    refine ia_go 1 rfl ?_
    refine ia_go 3 rfl ?_
    refine ia_getf rfl hs rfl ?_
    refine ia_go 1 rfl ?_
    refine ia_go 3 rfl ?_
    exact jd_rv1 rfl rfl rfl trivial ⟨rfl, rfl⟩
  ·
    refine jd_met (ls := [.ref s]) rfl rfl rfl ?_
    refine ia_go 1 rfl ?_
    refine ia_getf rfl hs rfl ?_
    refine ia_go 1 rfl ?_
    refine ia_go 2 rfl ?_
    refine ia_getf rfl hs rfl ?_
    refine ia_go 1 rfl ?_
    refine ia_go 3 rfl ?_
    exact jd_rv1 rfl rfl rfl trivial ⟨rfl, rfl⟩
  ·
    refine jd_met (ls := [.ref s]) rfl rfl rfl ?_
    refine ia_go 1 rfl ?_
    refine ia_getf rfl hs rfl ?_
    refine ia_go 1 rfl ?_
    refine ia_go 2 rfl ?_
    refine ia_getf rfl hs rfl ?_
    refine ia_go 1 rfl ?_
    refine ia_go 2 rfl ?_
    exact jd_rv1 rfl rfl rfl trivial ⟨rfl, rfl⟩
theorem cl_co {G : ia_G} {h : ia_H} {d u v n : Nat} {na sa : Nat → Nat} {x : nN} (hd : 1 ≤ d) (y : cx_n h u v na sa x n) : ia_Cn pg G kk_N_countOpen d 0 0 [.ref (na n)] h (fun rv h' => rv = some (.int (ooN x)) ∧ h' = h) := by
  obtain ⟨a0, a1, st, e, -, -, -, y1, y2⟩ := y
  unfold ooN
  by_cases l : zL x = 0
  · obtain rfl := y1 l
    rw [if_pos l]
    refine jd_met (ls := [.ref (na n)]) rfl rfl rfl ?_
    refine ia_go 1 rfl ?_
    refine ia_getf rfl e rfl ?_
    refine ia_go 1 rfl ?_
    refine ia_go 1 rfl ?_
    exact jd_rv1 rfl rfl rfl trivial ⟨rfl, rfl⟩
  · obtain ⟨rfl, ys⟩ := y2 l
    rw [if_neg l]
    obtain ⟨c1, c2, vv, pt, es, -⟩ := id ys
    by_cases o : zO x = true
    · rw [if_pos o]
      rw [if_pos o] at es
      refine jd_met (ls := [.ref (na n)]) rfl rfl rfl ?_
      refine ia_go 1 rfl ?_
      refine ia_getf rfl e rfl ?_
      refine ia_go 1 rfl ?_
      refine ia_go 1 rfl ?_
      refine ia_getf rfl e rfl ?_
      refine ia_getf rfl es rfl ?_
      refine ia_go 1 rfl ?_
      rw [if_neg (by decide)]
      refine ia_go 2 rfl ?_
      exact jd_rv1 rfl rfl rfl trivial ⟨rfl, rfl⟩
    · rw [if_neg o]
      rw [if_neg o] at es
      refine jd_met (ls := [.ref (na n)]) rfl rfl rfl ?_
      refine ia_go 1 rfl ?_
      refine ia_getf rfl e rfl ?_
      refine ia_go 1 rfl ?_
      refine ia_go 1 rfl ?_
      refine ia_getf rfl e rfl ?_
      refine ia_getf rfl es rfl ?_
      refine ia_go 1 rfl ?_
      rw [if_pos rfl]
      refine ia_go 1 rfl ?_
      refine ia_getf rfl e rfl ?_
      refine jd_cV (sa n) [] [] 0 0 (d' := d - 1) rfl rfl rfl es rfl rfl (by omega) (by omega) (by omega) (cl_cc ys) ?_
      rintro rv h' ⟨rfl, hh⟩
      subst hh
      exact jd_rv1 rfl rfl rfl trivial ⟨rfl, rfl⟩
theorem cl_find {G : ia_G} {h : ia_H} {d rr : Nat} {c x : Int32} {N : Nat → nN} {na : Nat → Nat} (y0 : cx_0 h c rr) (yn : cx_nd h N na) : ia_Cn pg G kk_R_find d 0 0 [.ref 64, .int x] h (fun rv h' => rv = some (rn na (nod N x)) ∧ h' = h) := by
  obtain ⟨f, e, hf⟩ := yn
  unfold rn
  by_cases h1 : x < 1
  · rw [if_pos (Classical.byContradiction fun z => by
      obtain ⟨⟨n1, n2⟩, n3, -⟩ := nod_in z
      rw [n3] at h1
      exact absurd h1 (nI_nlt (b := 1) n1 (by omega)))]
    refine jd_met (ls := [.ref 64, .int x]) rfl rfl rfl ?_
    refine ia_go 3 rfl ?_
    rw [if_pos h1]
    refine ia_go 2 rfl ?_
    exact jd_rv1 rfl rfl rfl trivial ⟨rfl, rfl⟩
  by_cases h2 : x ≤ 16
  · obtain ⟨j, hj, rfl⟩ := nI_of2 (M := 16) (n := 16) (by decide) (fun z => h1 (Int32.lt_trans z (by decide))) h2
    have j1 : 1 ≤ j := by
      rcases Nat.eq_zero_or_pos j with z | z
      · rw [z] at h1; exact absurd (by decide) h1
      · exact z
    by_cases hE : zE (N j) = true
    · rw [nod_at j1 hj hE, if_neg (by omega)]
      refine jd_met (ls := [.ref 64, .int (nI j)]) rfl rfl rfl ?_
      refine ia_go 3 rfl ?_
      rw [if_neg h1]
      refine ia_go 3 rfl ?_
      rw [if_pos h2]
      refine ia_go 1 rfl ?_
      refine ia_getf rfl y0 rfl ?_
      refine ia_go 1 rfl ?_
      refine ia_aald rfl e (vp_in_nI (by omega) (by omega)) (v := .ref (na j)) (by rw [nI_clamp (by omega), hf j j1 hj, if_pos hE]) ?_
      exact jd_rv1 rfl rfl rfl trivial ⟨rfl, rfl⟩
    · rw [if_pos (show nod N (nI j) = 0 from by unfold nod; rw [nI_clamp (by omega), if_neg (fun z => hE z.2.2)])]
      refine jd_met (ls := [.ref 64, .int (nI j)]) rfl rfl rfl ?_
      refine ia_go 3 rfl ?_
      rw [if_neg h1]
      refine ia_go 3 rfl ?_
      rw [if_pos h2]
      refine ia_go 1 rfl ?_
      refine ia_getf rfl y0 rfl ?_
      refine ia_go 1 rfl ?_
      refine ia_aald rfl e (vp_in_nI (by omega) (by omega)) (v := .null) (by rw [nI_clamp (by omega), hf j j1 hj, if_neg hE]) ?_
      exact jd_rv1 rfl rfl rfl trivial ⟨rfl, rfl⟩
  · rw [if_pos (Classical.byContradiction fun z => by
      obtain ⟨⟨n1, n2⟩, n3, -⟩ := nod_in z
      rw [n3] at h2
      exact h2 (nI_le (b := 16) n2 (by omega)))]
    refine jd_met (ls := [.ref 64, .int x]) rfl rfl rfl ?_
    refine ia_go 3 rfl ?_
    rw [if_neg h1]
    refine ia_go 3 rfl ?_
    rw [if_neg h2]
    refine ia_go 2 rfl ?_
    exact jd_rv1 rfl rfl rfl trivial ⟨rfl, rfl⟩
theorem cl_fnloop {G : ia_G} {h : ia_H} {d rr : Nat} {c : Int32} {N : Nat → nN} {na : Nat → Nat} (y0 : cx_0 h c rr) (yn : cx_nd h N na) : ∀ (r i : Nat), i + 1 + r = 17 → ia_Sx pg G kk_R_freeNumbers d 0 0 4 [.ref 64, .int (nI (i - ctN N i)), .int (nI (i + 1))] [] h (fun rv h' => rv = some (.int (nI (16 - ctN N 16))) ∧ h' = h) := by
  obtain ⟨f, e, hf⟩ := yn
  have cle : ∀ i, ctN N i ≤ i := by
    intro i
    induction i with
    | zero => exact Nat.le_refl _
    | succ i ih => show ctN N i + (if zE (N (i + 1)) = true then 1 else 0) ≤ i + 1; split <;> omega
  intro r
  induction r with
  | zero =>
    intro i hi
    obtain rfl : i = 16 := by omega
    refine ia_go 3 rfl ?_
    rw [if_pos (by decide)]
    refine ia_go 1 rfl ?_
    exact jd_rv1 rfl rfl rfl trivial ⟨rfl, rfl⟩
  | succ r ih =>
    intro i hi
    have ci := cle i
    by_cases hE : zE (N (i + 1)) = true
    · have hc : ctN N (i + 1) = ctN N i + 1 := by show ctN N i + (if zE (N (i + 1)) = true then 1 else 0) = _; rw [if_pos hE]
      refine ia_go 3 rfl ?_
      rw [if_neg (show ¬ (16 : Int32) < nI (i + 1) from nI_nlt (a := 16) (by omega) (by omega))]
      refine ia_go 2 rfl ?_
      refine ia_getf rfl y0 rfl ?_
      refine ia_go 1 rfl ?_
      refine ia_aald rfl e (vp_in_nI (by omega) (by omega)) (v := .ref (na (i + 1))) (by rw [nI_clamp (by omega), hf _ (by omega) (by omega), if_pos hE]) ?_
      refine ia_go 1 rfl ?_
      refine ia_go 3 rfl ?_
      dsimp only [ia_s1, ia_s2, ia_cl, ia_D, List.getElem?_cons_zero, List.getElem?_cons_succ, List.set_cons_zero, List.set_cons_succ]
      refine ia_go 1 rfl ?_
      dsimp only [ia_s1, ia_s2, ia_cl, ia_D, List.getElem?_cons_zero, List.getElem?_cons_succ, List.set_cons_zero, List.set_cons_succ]
      refine ia_go 1 rfl ?_
      rw [show nI (i + 1) + Int32.ofInt 1 = nI (i + 1 + 1) from nI_1 (i + 1), show nI (i - ctN N i) + (0 : Int32) = nI (i + 1 - ctN N (i + 1)) by rw [hc, Int32.add_zero]; congr 1; omega]
      exact ih (i + 1) (by omega)
    · have hc : ctN N (i + 1) = ctN N i := by show ctN N i + (if zE (N (i + 1)) = true then 1 else 0) = _; rw [if_neg hE]; rfl
      refine ia_go 3 rfl ?_
      rw [if_neg (show ¬ (16 : Int32) < nI (i + 1) from nI_nlt (a := 16) (by omega) (by omega))]
      refine ia_go 2 rfl ?_
      refine ia_getf rfl y0 rfl ?_
      refine ia_go 1 rfl ?_
      refine ia_aald rfl e (vp_in_nI (by omega) (by omega)) (v := .null) (by rw [nI_clamp (by omega), hf _ (by omega) (by omega), if_neg hE]) ?_
      refine ia_go 1 rfl ?_
      refine ia_go 4 rfl ?_
      dsimp only [ia_s1, ia_s2, ia_cl, ia_D, List.getElem?_cons_zero, List.getElem?_cons_succ, List.set_cons_zero, List.set_cons_succ]
      refine ia_go 1 rfl ?_
      dsimp only [ia_s1, ia_s2, ia_cl, ia_D, List.getElem?_cons_zero, List.getElem?_cons_succ, List.set_cons_zero, List.set_cons_succ]
      refine ia_go 1 rfl ?_
      rw [show nI (i + 1) + Int32.ofInt 1 = nI (i + 1 + 1) from nI_1 (i + 1), show nI (i - ctN N i) + (1 : Int32) = nI (i + 1 - ctN N (i + 1)) by rw [hc, nI_1]; congr 1; omega]
      exact ih (i + 1) (by omega)
theorem cl_free {G : ia_G} {h : ia_H} {d rr : Nat} {c : Int32} {N : Nat → nN} {na : Nat → Nat} (y0 : cx_0 h c rr) (yn : cx_nd h N na) : ia_Cn pg G kk_R_freeNumbers d 0 0 [.ref 64] h (fun rv h' => rv = some (.int (nI (16 - ctN N 16))) ∧ h' = h) := by
  refine jd_met (ls := [.ref 64, .retAddr 0, .retAddr 0]) rfl rfl rfl ?_
  refine ia_go 2 rfl ?_
  dsimp only [ia_s1, ia_s2, ia_cl, ia_D, List.getElem?_cons_zero, List.getElem?_cons_succ, List.set_cons_zero, List.set_cons_succ]
  refine ia_go 2 rfl ?_
  dsimp only [ia_s1, ia_s2, ia_cl, ia_D, List.getElem?_cons_zero, List.getElem?_cons_succ, List.set_cons_zero, List.set_cons_succ]
  exact cl_fnloop y0 yn 16 0 (by omega)
theorem cl_oploop {G : ia_G} {h : ia_H} {d rr u v : Nat} {c : Int32} {N : Nat → nN} {na sa : Nat → Nat} (hd : 2 ≤ d) (y0 : cx_0 h c rr) (yn : cx_nd h N na) (yc : CN N h u v na sa) : ∀ (r i : Nat), i + 1 + r = 17 → ia_Sx pg G kk_R_open d 0 0 4 [.ref 64, .int (osN N i), .int (nI (i + 1))] [] h (fun rv h' => rv = some (.int (osN N 16)) ∧ h' = h) := by
  obtain ⟨f, e, hf⟩ := yn
  intro r
  induction r with
  | zero =>
    intro i hi
    obtain rfl : i = 16 := by omega
    refine ia_go 3 rfl ?_
    rw [if_pos (by decide)]
    refine ia_go 1 rfl ?_
    exact jd_rv1 rfl rfl rfl trivial ⟨rfl, rfl⟩
  | succ r ih =>
    intro i hi
    by_cases hE : zE (N (i + 1)) = true
    · have hc : osN N (i + 1) = osN N i + ooN (N (i + 1)) := by show osN N i + (if zE (N (i + 1)) = true then ooN (N (i + 1)) else 0) = _; rw [if_pos hE]
      have yi := yc.1 (i + 1) (by omega) (by omega) hE
      obtain ⟨a0, a1, st, en, -⟩ := id yi
      refine ia_go 3 rfl ?_
      rw [if_neg (show ¬ (16 : Int32) < nI (i + 1) from nI_nlt (a := 16) (by omega) (by omega))]
      refine ia_go 2 rfl ?_
      refine ia_getf rfl y0 rfl ?_
      refine ia_go 1 rfl ?_
      refine ia_aald rfl e (vp_in_nI (by omega) (by omega)) (v := .ref (na (i + 1))) (by rw [nI_clamp (by omega), hf _ (by omega) (by omega), if_pos hE]) ?_
      refine ia_go 1 rfl ?_
      refine ia_go 1 rfl ?_
      refine ia_getf rfl y0 rfl ?_
      refine ia_go 1 rfl ?_
      refine ia_aald rfl e (vp_in_nI (by omega) (by omega)) (v := .ref (na (i + 1))) (by rw [nI_clamp (by omega), hf _ (by omega) (by omega), if_pos hE]) ?_
      refine jd_cV (na (i + 1)) [] [.int (osN N i)] 0 0 (d' := d - 1) rfl rfl rfl en rfl rfl (by omega) (by omega) (by omega) (cl_co (by omega) yi) ?_
      rintro rv h9 ⟨rfl, hh⟩
      subst hh
      refine ia_go 2 rfl ?_
      dsimp only [ia_s1, ia_s2, ia_cl, ia_D, List.getElem?_cons_zero, List.getElem?_cons_succ, List.set_cons_zero, List.set_cons_succ]
      refine ia_go 1 rfl ?_
      dsimp only [ia_s1, ia_s2, ia_cl, ia_D, List.getElem?_cons_zero, List.getElem?_cons_succ, List.set_cons_zero, List.set_cons_succ]
      refine ia_go 1 rfl ?_
      rw [show nI (i + 1) + Int32.ofInt 1 = nI (i + 1 + 1) from nI_1 (i + 1), ← hc]
      exact ih (i + 1) (by omega)
    · have hc : osN N (i + 1) = osN N i + 0 := by show osN N i + (if zE (N (i + 1)) = true then ooN (N (i + 1)) else 0) = _; rw [if_neg hE]
      refine ia_go 3 rfl ?_
      rw [if_neg (show ¬ (16 : Int32) < nI (i + 1) from nI_nlt (a := 16) (by omega) (by omega))]
      refine ia_go 2 rfl ?_
      refine ia_getf rfl y0 rfl ?_
      refine ia_go 1 rfl ?_
      refine ia_aald rfl e (vp_in_nI (by omega) (by omega)) (v := .null) (by rw [nI_clamp (by omega), hf _ (by omega) (by omega), if_neg hE]) ?_
      refine ia_go 1 rfl ?_
      refine ia_go 4 rfl ?_
      dsimp only [ia_s1, ia_s2, ia_cl, ia_D, List.getElem?_cons_zero, List.getElem?_cons_succ, List.set_cons_zero, List.set_cons_succ]
      refine ia_go 1 rfl ?_
      dsimp only [ia_s1, ia_s2, ia_cl, ia_D, List.getElem?_cons_zero, List.getElem?_cons_succ, List.set_cons_zero, List.set_cons_succ]
      refine ia_go 1 rfl ?_
      rw [show nI (i + 1) + Int32.ofInt 1 = nI (i + 1 + 1) from nI_1 (i + 1), ← hc]
      exact ih (i + 1) (by omega)
theorem cl_open {G : ia_G} {h : ia_H} {d rr u v : Nat} {c : Int32} {N : Nat → nN} {na sa : Nat → Nat} (hd : 2 ≤ d) (y0 : cx_0 h c rr) (yn : cx_nd h N na) (yc : CN N h u v na sa) : ia_Cn pg G kk_R_open d 0 0 [.ref 64] h (fun rv h' => rv = some (.int (osN N 16)) ∧ h' = h) := by
  refine jd_met (ls := [.ref 64, .retAddr 0, .retAddr 0]) rfl rfl rfl ?_
  refine ia_go 2 rfl ?_
  dsimp only [ia_s1, ia_s2, ia_cl, ia_D, List.getElem?_cons_zero, List.getElem?_cons_succ, List.set_cons_zero, List.set_cons_succ]
  refine ia_go 2 rfl ?_
  dsimp only [ia_s1, ia_s2, ia_cl, ia_D, List.getElem?_cons_zero, List.getElem?_cons_succ, List.set_cons_zero, List.set_cons_succ]
  exact cl_oploop hd y0 yn yc 16 0 (by omega)
theorem cl_fsloop {G : ia_G} {h : ia_H} {d rr u v : Nat} {c : Int32} {N : Nat → nN} {na sa : Nat → Nat} (hd : 2 ≤ d) (y0 : cx_0 h c rr) (yn : cx_nd h N na) (yc : CN N h u v na sa) : ∀ (r i : Nat), i + r = 17 → 1 ≤ i → ia_Sx pg G kk_R_first d 0 0 2 [.ref 64, .int (nI i)] [] h (fun rv h' => rv = some (.int (fsN N r i)) ∧ h' = h) := by
  obtain ⟨f, e, hf⟩ := yn
  intro r
  induction r with
  | zero =>
    intro i hi _
    obtain rfl : i = 17 := by omega
    refine ia_go 3 rfl ?_
    rw [if_pos (by decide)]
    refine ia_go 1 rfl ?_
    exact jd_rv1 rfl rfl rfl trivial ⟨rfl, rfl⟩
  | succ r ih =>
    intro i hi hi1
    by_cases hE : zE (N i) = true
    · have yi := yc.1 i hi1 (by omega) hE
      obtain ⟨a0, a1, st, en, -⟩ := id yi
      by_cases ho : 0 < ooN (N i)
      · rw [show fsN N (r + 1) i = nI i from if_pos ⟨hE, ho⟩]
        refine ia_go 3 rfl ?_
        rw [if_neg (show ¬ (16 : Int32) < nI i from nI_nlt (a := 16) (by omega) (by omega))]
        refine ia_go 1 rfl ?_
        refine ia_getf rfl y0 rfl ?_
        refine ia_go 1 rfl ?_
        refine ia_aald rfl e (vp_in_nI (by omega) (by omega)) (v := .ref (na i)) (by rw [nI_clamp (by omega), hf _ (by omega) (by omega), if_pos hE]) ?_
        refine ia_go 1 rfl ?_
        refine ia_go 1 rfl ?_
        refine ia_getf rfl y0 rfl ?_
        refine ia_go 1 rfl ?_
        refine ia_aald rfl e (vp_in_nI (by omega) (by omega)) (v := .ref (na i)) (by rw [nI_clamp (by omega), hf _ (by omega) (by omega), if_pos hE]) ?_
        refine jd_cV (na i) [] [] 0 0 (d' := d - 1) rfl rfl rfl en rfl rfl (by omega) (by omega) (by omega) (cl_co (by omega) yi) ?_
        rintro rv h9 ⟨rfl, hh⟩
        subst hh
        refine ia_go 1 rfl ?_
        rw [if_neg (Int32.not_le.mpr ho)]
        refine ia_go 1 rfl ?_
        exact jd_rv1 rfl rfl rfl trivial ⟨rfl, rfl⟩
      · rw [show fsN N (r + 1) i = fsN N r (i + 1) from if_neg fun z => ho z.2]
        refine ia_go 3 rfl ?_
        rw [if_neg (show ¬ (16 : Int32) < nI i from nI_nlt (a := 16) (by omega) (by omega))]
        refine ia_go 1 rfl ?_
        refine ia_getf rfl y0 rfl ?_
        refine ia_go 1 rfl ?_
        refine ia_aald rfl e (vp_in_nI (by omega) (by omega)) (v := .ref (na i)) (by rw [nI_clamp (by omega), hf _ (by omega) (by omega), if_pos hE]) ?_
        refine ia_go 1 rfl ?_
        refine ia_go 1 rfl ?_
        refine ia_getf rfl y0 rfl ?_
        refine ia_go 1 rfl ?_
        refine ia_aald rfl e (vp_in_nI (by omega) (by omega)) (v := .ref (na i)) (by rw [nI_clamp (by omega), hf _ (by omega) (by omega), if_pos hE]) ?_
        refine jd_cV (na i) [] [] 0 0 (d' := d - 1) rfl rfl rfl en rfl rfl (by omega) (by omega) (by omega) (cl_co (by omega) yi) ?_
        rintro rv h9 ⟨rfl, hh⟩
        subst hh
        refine ia_go 1 rfl ?_
        rw [if_pos (Int32.not_lt.mp ho)]
        refine ia_go 1 rfl ?_
        dsimp only [ia_s1, ia_s2, ia_cl, ia_D, List.getElem?_cons_zero, List.getElem?_cons_succ, List.set_cons_zero, List.set_cons_succ]
        refine ia_go 1 rfl ?_
        rw [show nI i + Int32.ofInt 1 = nI (i + 1) from nI_1 i]
        exact ih (i + 1) (by omega) (by omega)
    · rw [show fsN N (r + 1) i = fsN N r (i + 1) from if_neg fun z => hE z.1]
      refine ia_go 3 rfl ?_
      rw [if_neg (show ¬ (16 : Int32) < nI i from nI_nlt (a := 16) (by omega) (by omega))]
      refine ia_go 1 rfl ?_
      refine ia_getf rfl y0 rfl ?_
      refine ia_go 1 rfl ?_
      refine ia_aald rfl e (vp_in_nI (by omega) (by omega)) (v := .null) (by rw [nI_clamp (by omega), hf _ (by omega) (by omega), if_neg hE]) ?_
      refine ia_go 1 rfl ?_
      refine ia_go 1 rfl ?_
      dsimp only [ia_s1, ia_s2, ia_cl, ia_D, List.getElem?_cons_zero, List.getElem?_cons_succ, List.set_cons_zero, List.set_cons_succ]
      refine ia_go 1 rfl ?_
      rw [show nI i + Int32.ofInt 1 = nI (i + 1) from nI_1 i]
      exact ih (i + 1) (by omega) (by omega)
theorem cl_first {G : ia_G} {h : ia_H} {d rr u v : Nat} {c : Int32} {N : Nat → nN} {na sa : Nat → Nat} (hd : 2 ≤ d) (y0 : cx_0 h c rr) (yn : cx_nd h N na) (yc : CN N h u v na sa) : ia_Cn pg G kk_R_first d 0 0 [.ref 64] h (fun rv h' => rv = some (.int (fsN N 16 1)) ∧ h' = h) := by
  refine jd_met (ls := [.ref 64, .retAddr 0]) rfl rfl rfl ?_
  refine ia_go 2 rfl ?_
  dsimp only [ia_s1, ia_s2, ia_cl, ia_D, List.getElem?_cons_zero, List.getElem?_cons_succ, List.set_cons_zero, List.set_cons_succ]
  exact cl_fsloop hd y0 yn yc 16 1 (by omega) (by omega)
