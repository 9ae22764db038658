/-! THE CLASS, 4: refuting, after, node, text, open, first. -/
theorem cx_same {A : aS} {h : ia_H} {k : Nat} {x : Int32} (y : CX A h) : cx_P h k (A, x) (some (.int x)) h := ⟨rfl, y, sx_fr.rf, by omega⟩
theorem cx_refuting {G : ia_G} {h : ia_H} {d : Nat} {A : aS} {x : Int32} (y : CX A h) : ia_Cn pg G kk_R_refuting d 0 0 [.ref 64, .int x] h (cx_P h 0 (sp_refuting A x)) := by
  have y' := y
  obtain ⟨u, c1, v, c2, na, sa, ⟨y0, -, -, -, -, -, -, ⟨⟨f, e, g⟩, -⟩, -⟩, -⟩ := y
  by_cases h1 : x < 0
  · rw [show sp_refuting A x = (A, -1) by unfold sp_refuting; rw [ch_neg (by rintro ⟨j, hj, rfl⟩; exact absurd h1 (nI_pos (by omega)))]]
    refine jd_met (ls := [.ref 64, .int x]) rfl rfl rfl ?_
    refine ia_go 2 rfl ?_
    rw [if_pos (by exact h1)]
    refine ia_go 2 rfl ?_
    exact jd_rv1 rfl rfl rfl trivial (cx_same y')
  by_cases h2 : x < nI 5
  · obtain ⟨j, hj, rfl⟩ := nI_of h1
    have j5 : j < 5 := (nI_ltI hj (by omega)).mp h2
    rw [show sp_refuting A (nI j) = (A, aD A j) by unfold sp_refuting; rw [ch_pos ⟨j, j5, rfl⟩, nI_clamp hj]]
    refine jd_met (ls := [.ref 64, .int (nI j)]) rfl rfl rfl ?_
    refine ia_go 2 rfl ?_
    rw [if_neg (by exact h1)]
    refine ia_go 2 rfl ?_
    refine ia_getf rfl y0 rfl ?_
    refine jd_alen rfl e ?_
    refine ia_go 1 rfl ?_
    rw [if_pos (by exact h2)]
    refine ia_go 1 rfl ?_
    refine ia_getf rfl y0 rfl ?_
    refine ia_go 1 rfl ?_
    refine ia_iald rfl e (vp_in_nI j5 (by omega)) (v := .int (aD A j)) (by rw [nI_clamp hj, g j j5]) ?_
    exact jd_rv1 rfl rfl rfl trivial (cx_same y')
  · rw [show sp_refuting A x = (A, -1) by unfold sp_refuting; rw [ch_neg (by rintro ⟨j, hj, rfl⟩; exact h2 (nI_lt hj (by omega)))]]
    refine jd_met (ls := [.ref 64, .int x]) rfl rfl rfl ?_
    refine ia_go 2 rfl ?_
    rw [if_neg (by exact h1)]
    refine ia_go 2 rfl ?_
    refine ia_getf rfl y0 rfl ?_
    refine jd_alen rfl e ?_
    refine ia_go 1 rfl ?_
    rw [if_neg (by exact h2)]
    refine ia_go 2 rfl ?_
    exact jd_rv1 rfl rfl rfl trivial (cx_same y')
theorem cx_after {G : ia_G} {h : ia_H} {d : Nat} {A : aS} {x : Int32} (y : CX A h) (hA : AI A) : ia_Cn pg G kk_R_after d 0 0 [.ref 64, .int x] h (cx_P h 0 (sp_after A x)) := by
  have y' := y
  obtain ⟨u, c1, v, c2, na, sa, ⟨y0, -, -, -, -, -, -, ⟨-, ⟨f, e, g⟩⟩, -⟩, -⟩ := y
  by_cases h3 : x = 3
  · subst h3
    rw [show sp_after A 3 = (A, aW A 3) by unfold sp_after; rw [ch_pos ⟨3, by omega, rfl⟩]; rfl]
    obtain ⟨-, -, -, ⟨-, -, -, h01⟩, -⟩ := hA
    rcases h01 with z | z
    · unfold cx_0 at y0
      rw [z] at y0
      refine jd_met (ls := [.ref 64, .int 3]) rfl rfl rfl ?_
      refine ia_go 3 rfl ?_
      rw [if_neg (by exact (fun z => z rfl))]
      refine ia_go 1 rfl ?_
      refine ia_getf rfl y0 rfl ?_
      refine ia_go 1 rfl ?_
      rw [if_pos (by exact rfl)]
      refine ia_go 1 rfl ?_
      refine jd_rv1 rfl rfl rfl trivial ?_
      rw [z]; exact cx_same y'
    · unfold cx_0 at y0
      rw [z] at y0
      refine jd_met (ls := [.ref 64, .int 3]) rfl rfl rfl ?_
      refine ia_go 3 rfl ?_
      rw [if_neg (by exact (fun z => z rfl))]
      refine ia_go 1 rfl ?_
      refine ia_getf rfl y0 rfl ?_
      refine ia_go 1 rfl ?_
      rw [if_neg (by exact (by decide))]
      refine ia_go 2 rfl ?_
      refine jd_rv1 rfl rfl rfl trivial ?_
      rw [z]; exact cx_same y'
  by_cases h1 : x < 0
  · rw [show sp_after A x = (A, -1) by unfold sp_after; rw [ch_neg (by rintro ⟨j, hj, rfl⟩; exact absurd h1 (nI_pos (by omega)))]]
    refine jd_met (ls := [.ref 64, .int x]) rfl rfl rfl ?_
    refine ia_go 3 rfl ?_
    rw [if_pos (by exact h3)]
    refine ia_go 2 rfl ?_
    rw [if_pos (by exact h1)]
    refine ia_go 2 rfl ?_
    exact jd_rv1 rfl rfl rfl trivial (cx_same y')
  by_cases h2 : x < nI 3
  · obtain ⟨j, hj, rfl⟩ := nI_of h1
    have j3 : j < 3 := (nI_ltI hj (by omega)).mp h2
    rw [show sp_after A (nI j) = (A, aW A j) by unfold sp_after; rw [ch_pos ⟨j, by omega, rfl⟩, nI_clamp hj]]
    refine jd_met (ls := [.ref 64, .int (nI j)]) rfl rfl rfl ?_
    refine ia_go 3 rfl ?_
    rw [if_pos (by exact h3)]
    refine ia_go 2 rfl ?_
    rw [if_neg (by exact h1)]
    refine ia_go 2 rfl ?_
    refine ia_getf rfl y0 rfl ?_
    refine jd_alen rfl e ?_
    refine ia_go 1 rfl ?_
    rw [if_pos (by exact h2)]
    refine ia_go 1 rfl ?_
    refine ia_getf rfl y0 rfl ?_
    refine ia_go 1 rfl ?_
    refine ia_iald rfl e (vp_in_nI j3 (by omega)) (v := .int (aW A j)) (by rw [nI_clamp hj, g j j3]) ?_
    exact jd_rv1 rfl rfl rfl trivial (cx_same y')
  · rw [show sp_after A x = (A, -1) by unfold sp_after; rw [ch_neg (by
      rintro ⟨j, hj, rfl⟩
      rcases (show j = 3 ∨ j < 3 by omega) with z | z
      · exact h3 (by rw [z]; rfl)
      · exact h2 (nI_lt z (by omega)))]]
    refine jd_met (ls := [.ref 64, .int x]) rfl rfl rfl ?_
    refine ia_go 3 rfl ?_
    rw [if_pos (by exact h3)]
    refine ia_go 2 rfl ?_
    rw [if_neg (by exact h1)]
    refine ia_go 2 rfl ?_
    refine ia_getf rfl y0 rfl ?_
    refine jd_alen rfl e ?_
    refine ia_go 1 rfl ?_
    rw [if_neg (by exact h2)]
    refine ia_go 2 rfl ?_
    exact jd_rv1 rfl rfl rfl trivial (cx_same y')
theorem cx_open {G : ia_G} {h : ia_H} {d : Nat} {A : aS} (hd : 2 ≤ d) (y : CX A h) : ia_Cn pg G kk_R_open d 0 0 [.ref 64] h (cx_P h 0 (sp_open A)) := by
  have y' := y
  obtain ⟨u, c1, v, c2, na, sa, ⟨y0, -, -, ynd, -⟩, -, yn⟩ := y
  refine (cl_open hd y0 ynd yn).mono ?_
  rintro rv h' ⟨rfl, rfl⟩
  exact cx_same y'
theorem cx_first {G : ia_G} {h : ia_H} {d : Nat} {A : aS} (hd : 2 ≤ d) (y : CX A h) : ia_Cn pg G kk_R_first d 0 0 [.ref 64] h (cx_P h 0 (sp_first A)) := by
  have y' := y
  obtain ⟨u, c1, v, c2, na, sa, ⟨y0, -, -, ynd, -⟩, -, yn⟩ := y
  refine (cl_first hd y0 ynd yn).mono ?_
  rintro rv h' ⟨rfl, rfl⟩
  exact cx_same y'
/-- numberOf a child -/
theorem cl_num {G : ia_G} {h : ia_H} {d u v k : Nat} {na sa : Nat → Nat} {N : Nat → nN} (hk : k = 0 ∨ ∃ x, cx_n h u v na sa x k) : ia_Cn pg G kk_R_numberOf d 0 0 [rn na k] h (fun rv h' => rv = some (.int (nI k)) ∧ h' = h) := by
  rcases hk with rfl | ⟨x, a0, a1, st, e, -, -, -⟩
  · exact cl_num0
  · by_cases z : k = 0
    · subst z; exact cl_num0
    · rw [show rn na k = .ref (na k) from if_neg z]
      exact cl_num1 e rfl
theorem cl_ndtail0 {G : ia_G} {h : ia_H} {d n : Nat} {x : Int32} {u v : Nat} {na sa : Nat → Nat} {z : nN} (hd : 2 ≤ d) (y : cx_n h u v na sa z n) (l : zL z = 0) (hK : zK z = 0) (hM : zM z = 0) (w : Int32) : ia_Sx pg G kk_R_node d 0 0 18 [.ref 64, .int x, .int w, .ref (na n), .null] [] h (fun rv h' => rv = some (.int (ndN z w)) ∧ h' = h) := by
  obtain ⟨a0, a1, st, e, -⟩ := id y
  by_cases w0 : w = 0
  · subst w0
    refine ia_go 2 rfl ?_
    skip
    refine ia_go 1 rfl ?_
    refine ia_getf rfl e rfl ?_
    exact jd_rv1 rfl rfl rfl trivial ⟨rfl, rfl⟩
  by_cases w1 : w = 1
  · subst w1
    refine ia_go 2 rfl ?_
    skip
    refine ia_go 2 rfl ?_
    refine ia_go 2 rfl ?_
    exact jd_rv1 rfl rfl rfl trivial ⟨by show _ = some (Value.int (nI (zL z))); rw [l]; rfl, rfl⟩
  by_cases w2 : w = 2
  · subst w2
    refine ia_go 2 rfl ?_
    skip
    refine ia_go 2 rfl ?_
    refine ia_go 2 rfl ?_
    exact jd_rv1 rfl rfl rfl trivial ⟨by show _ = some (Value.int (nI (zK z))); rw [hK]; rfl, rfl⟩
  by_cases w3 : w = 3
  · subst w3
    refine ia_go 2 rfl ?_
    skip
    refine ia_go 2 rfl ?_
    refine ia_go 2 rfl ?_
    exact jd_rv1 rfl rfl rfl trivial ⟨by show _ = some (Value.int (nI (zM z))); rw [hM]; rfl, rfl⟩
  by_cases w4 : w = 4
  · subst w4
    refine ia_go 2 rfl ?_
    skip
    refine ia_go 2 rfl ?_
    refine ia_go 2 rfl ?_
    exact jd_rv1 rfl rfl rfl trivial ⟨by show _ = some (Value.int (nI (ncw (zL z)))); rw [l]; rfl, rfl⟩
  by_cases w5 : w = 5
  · subst w5
    refine ia_go 2 rfl ?_
    skip
    refine ia_go 1 rfl ?_
    refine jd_cV (na n) [] [] 0 0 (d' := d - 1) rfl rfl rfl e rfl rfl (by omega) (by omega) (by omega) (cl_co (by omega) y) ?_
    rintro rv h' ⟨rfl, hh⟩
    refine ia_go 1 rfl ?_
    subst hh
    rw [show ooN z = 1 from if_pos l]
    rw [if_pos (by exact (by decide))]
    refine ia_go 1 rfl ?_
    exact jd_rv1 rfl rfl rfl trivial ⟨by show _ = some (Value.int (if ooN z = 0 then 1 else 0)); rw [show ooN z = 1 from if_pos l]; rfl, rfl⟩
  · rw [show ndN z w = -1 by unfold ndN; rw [if_neg w0, if_neg w1, if_neg w2, if_neg w3, if_neg w4, if_neg w5]]
    refine ia_go 1 rfl ?_
    refine ia_tsw rfl ?_ (by decide) ?_
    · have hw : w.toInt ≠ 0 ∧ w.toInt ≠ 1 ∧ w.toInt ≠ 2 ∧ w.toInt ≠ 3 ∧ w.toInt ≠ 4 ∧ w.toInt ≠ 5 := ⟨fun q => w0 (Int32.toInt_inj.mp (by rw [q]; rfl)), fun q => w1 (Int32.toInt_inj.mp (by rw [q]; rfl)), fun q => w2 (Int32.toInt_inj.mp (by rw [q]; rfl)), fun q => w3 (Int32.toInt_inj.mp (by rw [q]; rfl)), fun q => w4 (Int32.toInt_inj.mp (by rw [q]; rfl)), fun q => w5 (Int32.toInt_inj.mp (by rw [q]; rfl))⟩
      show w.toInt < 0 ∨ 5 < w.toInt
      omega
    · show ia_Sx pg G kk_R_node d 0 0 140 _ _ h _
      refine ia_go 1 rfl ?_
      exact jd_rv1 rfl rfl rfl trivial ⟨rfl, rfl⟩
theorem cl_ndtail1 {G : ia_G} {h : ia_H} {d n : Nat} {x : Int32} {u v : Nat} {na sa : Nat → Nat} {z : nN} (hd : 2 ≤ d) (y : cx_n h u v na sa z n) (l : zL z ≠ 0) (hK : zK z = 0 ∨ ∃ q, cx_n h u v na sa q (zK z)) (hM : zM z = 0 ∨ ∃ q, cx_n h u v na sa q (zM z)) (w : Int32) : ia_Sx pg G kk_R_node d 0 0 18 [.ref 64, .int x, .int w, .ref (na n), .ref (sa n)] [] h (fun rv h' => rv = some (.int (ndN z w)) ∧ h' = h) := by
  obtain ⟨a0, a1, st, e, -, -, -, -, ysf⟩ := id y
  obtain ⟨rfl, ys⟩ := ysf l
  obtain ⟨k1, k2, vv, pt, es, -⟩ := id ys
  by_cases w0 : w = 0
  · subst w0
    refine ia_go 2 rfl ?_
    skip
    refine ia_go 1 rfl ?_
    refine ia_getf rfl e rfl ?_
    exact jd_rv1 rfl rfl rfl trivial ⟨rfl, rfl⟩
  by_cases w1 : w = 1
  · subst w1
    refine ia_go 2 rfl ?_
    skip
    refine ia_go 2 rfl ?_
    refine ia_go 1 rfl ?_
    refine ia_getf rfl es rfl ?_
    exact jd_rv1 rfl rfl rfl trivial ⟨rfl, rfl⟩
  by_cases w2 : w = 2
  · subst w2
    refine ia_go 2 rfl ?_
    skip
    refine ia_go 2 rfl ?_
    refine ia_go 1 rfl ?_
    refine ia_getf rfl es rfl ?_
    refine jd_cS [rn na (zK z)] [] 0 0 (d' := d - 1) rfl rfl rfl rfl rfl (by omega) (by omega) (by omega) (cl_num (N := fun _ => z) hK) ?_
    rintro rv h' ⟨rfl, hh⟩
    subst hh
    exact jd_rv1 rfl rfl rfl trivial ⟨rfl, rfl⟩
  by_cases w3 : w = 3
  · subst w3
    refine ia_go 2 rfl ?_
    skip
    refine ia_go 2 rfl ?_
    refine ia_go 1 rfl ?_
    refine ia_getf rfl es rfl ?_
    refine jd_cS [rn na (zM z)] [] 0 0 (d' := d - 1) rfl rfl rfl rfl rfl (by omega) (by omega) (by omega) (cl_num (N := fun _ => z) hM) ?_
    rintro rv h' ⟨rfl, hh⟩
    subst hh
    exact jd_rv1 rfl rfl rfl trivial ⟨rfl, rfl⟩
  by_cases w4 : w = 4
  · subst w4
    refine ia_go 2 rfl ?_
    skip
    refine ia_go 2 rfl ?_
    refine ia_go 1 rfl ?_
    refine jd_cV (sa n) [] [] 0 0 (d' := d - 1) rfl rfl rfl es rfl rfl (by omega) (by omega) (by omega) (cl_cc ys) ?_
    rintro rv h' ⟨rfl, hh⟩
    subst hh
    exact jd_rv1 rfl rfl rfl trivial ⟨rfl, rfl⟩
  by_cases w5 : w = 5
  · subst w5
    by_cases o : ooN z = 0
    · rw [show ndN z 5 = 1 by show (if ooN z = 0 then (1 : Int32) else 0) = 1; rw [if_pos o]]
      refine ia_go 2 rfl ?_
      skip
      refine ia_go 1 rfl ?_
      refine jd_cV (na n) [] [] 0 0 (d' := d - 1) rfl rfl rfl e rfl rfl (by omega) (by omega) (by omega) (cl_co (by omega) y) ?_
      rintro rv h' ⟨rfl, hh⟩
      refine ia_go 1 rfl ?_
      subst hh
      rw [if_neg (by exact (fun q => q o))]
      refine ia_go 2 rfl ?_
      exact jd_rv1 rfl rfl rfl trivial ⟨rfl, rfl⟩
    · rw [show ndN z 5 = 0 by show (if ooN z = 0 then (1 : Int32) else 0) = 0; rw [if_neg o]]
      refine ia_go 2 rfl ?_
      skip
      refine ia_go 1 rfl ?_
      refine jd_cV (na n) [] [] 0 0 (d' := d - 1) rfl rfl rfl e rfl rfl (by omega) (by omega) (by omega) (cl_co (by omega) y) ?_
      rintro rv h' ⟨rfl, hh⟩
      refine ia_go 1 rfl ?_
      subst hh
      rw [if_pos (by exact o)]
      refine ia_go 1 rfl ?_
      exact jd_rv1 rfl rfl rfl trivial ⟨rfl, rfl⟩
  · rw [show ndN z w = -1 by unfold ndN; rw [if_neg w0, if_neg w1, if_neg w2, if_neg w3, if_neg w4, if_neg w5]]
    refine ia_go 1 rfl ?_
    refine ia_tsw rfl ?_ (by decide) ?_
    · have hw : w.toInt ≠ 0 ∧ w.toInt ≠ 1 ∧ w.toInt ≠ 2 ∧ w.toInt ≠ 3 ∧ w.toInt ≠ 4 ∧ w.toInt ≠ 5 := ⟨fun q => w0 (Int32.toInt_inj.mp (by rw [q]; rfl)), fun q => w1 (Int32.toInt_inj.mp (by rw [q]; rfl)), fun q => w2 (Int32.toInt_inj.mp (by rw [q]; rfl)), fun q => w3 (Int32.toInt_inj.mp (by rw [q]; rfl)), fun q => w4 (Int32.toInt_inj.mp (by rw [q]; rfl)), fun q => w5 (Int32.toInt_inj.mp (by rw [q]; rfl))⟩
      show w.toInt < 0 ∨ 5 < w.toInt
      omega
    · show ia_Sx pg G kk_R_node d 0 0 140 _ _ h _
      refine ia_go 1 rfl ?_
      exact jd_rv1 rfl rfl rfl trivial ⟨rfl, rfl⟩
theorem cx_node {G : ia_G} {h : ia_H} {d : Nat} {A : aS} {x w : Int32} (hd : 2 ≤ d) (y : CX A h) (hA : AI A) : ia_Cn pg G kk_R_node d 0 0 [.ref 64, .int x, .int w] h (cx_P h 0 (sp_node A x w)) := by
  have y' := y
  obtain ⟨u, c1, v, c2, na, sa, ⟨y0, -, -, ynd, -⟩, -, yn⟩ := y
  have h5 := hA.2.2.2.2
  by_cases hn : nod (aN A) x = 0
  · rw [show sp_node A x w = (A, -1) by unfold sp_node; rw [if_pos hn]]
    have cf := cl_find (G := G) (d := d - 1) (x := x) y0 ynd
    rw [hn] at cf
    refine jd_met (ls := [.ref 64, .int x, .int w, .retAddr 0, .retAddr 0]) rfl rfl rfl ?_
    refine ia_go 2 rfl ?_
    refine jd_cV 64 [.int x] [] 0 0 (d' := d - 1) rfl rfl rfl y0 rfl rfl (by omega) (by omega) (by omega) (cf) ?_
    rintro rv h' ⟨rfl, hh⟩
    subst hh
    rw [show rn na 0 = .null from rfl]
    refine ia_go 1 rfl ?_
    dsimp only [ia_s1, ia_s2, ia_cl, ia_D, List.getElem?_cons_zero, List.getElem?_cons_succ, List.set_cons_zero, List.set_cons_succ]
    refine ia_go 2 rfl ?_
    refine ia_go 1 rfl ?_
    exact jd_rv1 rfl rfl rfl trivial (cx_same y')
  · obtain ⟨⟨n1, n2⟩, -, n3⟩ := nod_in hn
    rw [show sp_node A x w = (A, ndN (aN A (nod (aN A) x)) w) by unfold sp_node; rw [if_neg hn]]
    have cf := cl_find (G := G) (d := d - 1) (x := x) y0 ynd
    rw [show rn na (nod (aN A) x) = .ref (na (nod (aN A) x)) from if_neg hn] at cf
    generalize nod (aN A) x = n at n1 n2 n3 cf hn
    have yn' := yn.1 n n1 n2 n3
    obtain ⟨a0, a1, st, e, -, -, -, ys0, ys1⟩ := id yn'
    obtain ⟨-, l8, -, ⟨k1, k1'⟩, ⟨k2, k2'⟩, -⟩ := h5 n n1 n2 n3
    by_cases l : zL (aN A n) = 0
    · obtain rfl := ys0 l
      refine jd_met (ls := [.ref 64, .int x, .int w, .retAddr 0, .retAddr 0]) rfl rfl rfl ?_
      refine ia_go 2 rfl ?_
      refine jd_cV 64 [.int x] [] 0 0 (d' := d - 1) rfl rfl rfl y0 rfl rfl (by omega) (by omega) (by omega) (cf) ?_
      rintro rv h' ⟨rfl, hh⟩
      subst hh
      refine ia_go 1 rfl ?_
      dsimp only [ia_s1, ia_s2, ia_cl, ia_D, List.getElem?_cons_zero, List.getElem?_cons_succ, List.set_cons_zero, List.set_cons_succ]
      refine ia_go 2 rfl ?_
      refine ia_go 1 rfl ?_
      refine ia_getf rfl e rfl ?_
      refine ia_go 1 rfl ?_
      dsimp only [ia_s1, ia_s2, ia_cl, ia_D, List.getElem?_cons_zero, List.getElem?_cons_succ, List.set_cons_zero, List.set_cons_succ]
      refine ia_Sx.mono (cl_ndtail0 hd yn' l (k1' (by omega)) (k2' (by omega)) w) (fun rv h' z => ?_)
      obtain ⟨rfl, rfl⟩ := z
      exact cx_same y'
    · obtain ⟨rfl, -⟩ := ys1 l
      refine jd_met (ls := [.ref 64, .int x, .int w, .retAddr 0, .retAddr 0]) rfl rfl rfl ?_
      refine ia_go 2 rfl ?_
      refine jd_cV 64 [.int x] [] 0 0 (d' := d - 1) rfl rfl rfl y0 rfl rfl (by omega) (by omega) (by omega) (cf) ?_
      rintro rv h' ⟨rfl, hh⟩
      subst hh
      refine ia_go 1 rfl ?_
      dsimp only [ia_s1, ia_s2, ia_cl, ia_D, List.getElem?_cons_zero, List.getElem?_cons_succ, List.set_cons_zero, List.set_cons_succ]
      refine ia_go 2 rfl ?_
      refine ia_go 1 rfl ?_
      refine ia_getf rfl e rfl ?_
      refine ia_go 1 rfl ?_
      dsimp only [ia_s1, ia_s2, ia_cl, ia_D, List.getElem?_cons_zero, List.getElem?_cons_succ, List.set_cons_zero, List.set_cons_succ]
      refine ia_Sx.mono (cl_ndtail1 hd yn' l ?_ ?_ w) (fun rv h' z => ?_)
      · by_cases z : 3 ≤ zL (aN A n)
        · obtain ⟨⟨a, b, c⟩, -⟩ := k1 z
          exact Or.inr ⟨_, yn.1 _ a b c⟩
        · exact Or.inl (k1' (by omega))
      · by_cases z : zL (aN A n) = 3 ∨ zL (aN A n) = 4
        · obtain ⟨⟨a, b, c⟩, -⟩ := k2 z
          exact Or.inr ⟨_, yn.1 _ a b c⟩
        · exact Or.inl (k2' z)
      · obtain ⟨rfl, rfl⟩ := z
        exact cx_same y'
/-- the texts of a node -/
theorem cl_wr {G : ia_G} {h : ia_H} {d n : Nat} {u v : Nat} {na sa : Nat → Nat} {z : nN} (y : cx_n h u v na sa z n) (w : Int32) : ia_Cn pg G kk_N_writing d 0 0 [.ref (na n), .int w] h (fun rv h' => h' = h ∧ ((∃ k a, w = nI k ∧ k < 2 + ncw (zL z) ∧ rv = some (.ref a) ∧ tt h u v a (zT z k)) ∨ ((¬ ∃ k, w = nI k ∧ k < 2 + ncw (zL z)) ∧ rv = some .null))) := by
  obtain ⟨a0, a1, st, e, t0, t1, -, ys0, ys1⟩ := id y
  have hn := ncw_le (zL z)
  have no : ∀ j : Nat, j < 4 → w = nI j → 2 + ncw (zL z) ≤ j → ¬ ∃ k, w = nI k ∧ k < 2 + ncw (zL z) := by
    rintro j j4 rfl hj ⟨k, hk, k1⟩
    have := (nI_eq (by omega) (by omega)).mp hk
    omega
  by_cases w0 : w = 0
  · subst w0
    refine jd_met (ls := [.ref (na n), .int 0]) rfl rfl rfl ?_
    refine ia_go 2 rfl ?_
    skip
    refine ia_go 1 rfl ?_
    refine ia_getf rfl e rfl ?_
    exact jd_rv1 rfl rfl rfl trivial ⟨rfl, Or.inl ⟨0, a0, rfl, by omega, rfl, t0⟩⟩
  by_cases w1 : w = 1
  · subst w1
    refine jd_met (ls := [.ref (na n), .int 1]) rfl rfl rfl ?_
    refine ia_go 2 rfl ?_
    skip
    refine ia_go 1 rfl ?_
    refine ia_getf rfl e rfl ?_
    exact jd_rv1 rfl rfl rfl trivial ⟨rfl, Or.inl ⟨1, a1, rfl, by omega, rfl, t1⟩⟩
  by_cases w2 : w = 2
  · subst w2
    by_cases l : zL z = 0
    · obtain rfl := ys0 l
      refine jd_met (ls := [.ref (na n), .int 2]) rfl rfl rfl ?_
      refine ia_go 2 rfl ?_
      skip
      refine ia_go 1 rfl ?_
      refine ia_getf rfl e rfl ?_
      refine ia_go 1 rfl ?_
      refine ia_go 2 rfl ?_
      exact jd_rv1 rfl rfl rfl trivial ⟨rfl, Or.inr ⟨no 2 (by omega) rfl (by rw [l]; decide), rfl⟩⟩
    · obtain ⟨rfl, ys⟩ := ys1 l
      obtain ⟨k1, k2, vv, pt, es, q1, q2, -⟩ := id ys
      by_cases c : 1 ≤ ncw (zL z)
      · obtain ⟨a, rfl, ta⟩ := q1.1 c
        refine jd_met (ls := [.ref (na n), .int 2]) rfl rfl rfl ?_
        refine ia_go 2 rfl ?_
        skip
        refine ia_go 1 rfl ?_
        refine ia_getf rfl e rfl ?_
        refine ia_go 1 rfl ?_
        refine ia_go 1 rfl ?_
        refine ia_getf rfl e rfl ?_
        refine ia_getf rfl es rfl ?_
        exact jd_rv1 rfl rfl rfl trivial ⟨rfl, Or.inl ⟨2, a, rfl, by omega, rfl, ta⟩⟩
      · obtain rfl := q1.2 c
        refine jd_met (ls := [.ref (na n), .int 2]) rfl rfl rfl ?_
        refine ia_go 2 rfl ?_
        skip
        refine ia_go 1 rfl ?_
        refine ia_getf rfl e rfl ?_
        refine ia_go 1 rfl ?_
        refine ia_go 1 rfl ?_
        refine ia_getf rfl e rfl ?_
        refine ia_getf rfl es rfl ?_
        exact jd_rv1 rfl rfl rfl trivial ⟨rfl, Or.inr ⟨no 2 (by omega) rfl (by omega), rfl⟩⟩
  by_cases w3 : w = 3
  · subst w3
    by_cases l : zL z = 0
    · obtain rfl := ys0 l
      refine jd_met (ls := [.ref (na n), .int 3]) rfl rfl rfl ?_
      refine ia_go 2 rfl ?_
      skip
      refine ia_go 1 rfl ?_
      refine ia_getf rfl e rfl ?_
      refine ia_go 1 rfl ?_
      refine ia_go 2 rfl ?_
      exact jd_rv1 rfl rfl rfl trivial ⟨rfl, Or.inr ⟨no 3 (by omega) rfl (by rw [l]; decide), rfl⟩⟩
    · obtain ⟨rfl, ys⟩ := ys1 l
      obtain ⟨k1, k2, vv, pt, es, q1, q2, -⟩ := id ys
      by_cases c : 2 ≤ ncw (zL z)
      · obtain ⟨a, rfl, ta⟩ := q2.1 c
        refine jd_met (ls := [.ref (na n), .int 3]) rfl rfl rfl ?_
        refine ia_go 2 rfl ?_
        skip
        refine ia_go 1 rfl ?_
        refine ia_getf rfl e rfl ?_
        refine ia_go 1 rfl ?_
        refine ia_go 1 rfl ?_
        refine ia_getf rfl e rfl ?_
        refine ia_getf rfl es rfl ?_
        exact jd_rv1 rfl rfl rfl trivial ⟨rfl, Or.inl ⟨3, a, rfl, by omega, rfl, ta⟩⟩
      · obtain rfl := q2.2 c
        refine jd_met (ls := [.ref (na n), .int 3]) rfl rfl rfl ?_
        refine ia_go 2 rfl ?_
        skip
        refine ia_go 1 rfl ?_
        refine ia_getf rfl e rfl ?_
        refine ia_go 1 rfl ?_
        refine ia_go 1 rfl ?_
        refine ia_getf rfl e rfl ?_
        refine ia_getf rfl es rfl ?_
        exact jd_rv1 rfl rfl rfl trivial ⟨rfl, Or.inr ⟨no 3 (by omega) rfl (by omega), rfl⟩⟩
  ·
    refine jd_met (ls := [.ref (na n), .int w]) rfl rfl rfl ?_
    refine ia_go 1 rfl ?_
    refine ia_tsw rfl ?_ (by decide) ?_
    · have hw : w.toInt ≠ 0 ∧ w.toInt ≠ 1 ∧ w.toInt ≠ 2 ∧ w.toInt ≠ 3 := ⟨fun q => w0 (Int32.toInt_inj.mp (by rw [q]; rfl)), fun q => w1 (Int32.toInt_inj.mp (by rw [q]; rfl)), fun q => w2 (Int32.toInt_inj.mp (by rw [q]; rfl)), fun q => w3 (Int32.toInt_inj.mp (by rw [q]; rfl))⟩
      show w.toInt < 0 ∨ 3 < w.toInt
      omega
    · show ia_Sx pg G kk_N_writing d 0 0 80 _ _ h _
      refine ia_go 1 rfl ?_
      exact jd_rv1 rfl rfl rfl trivial ⟨rfl, Or.inr ⟨by rintro ⟨k, rfl, hk⟩; rcases (show k = 0 ∨ k = 1 ∨ k = 2 ∨ k = 3 by omega) with rfl | rfl | rfl | rfl; exact w0 rfl; exact w1 rfl; exact w2 rfl; exact w3 rfl, rfl⟩⟩
theorem cx_text {G : ia_G} {h : ia_H} {d : Nat} {A : aS} {x w i : Int32} (hd : 4 ≤ d) (y : CX A h) : ia_Cn pg G kk_R_text d 0 0 [.ref 64, .int x, .int w, .int i] h (cx_P h 0 (sp_text A x w i)) := by
  have y' := y
  obtain ⟨u, c1, v, c2, na, sa, ⟨y0, -, -, ynd, -⟩, -, yn⟩ := y
  have cf := cl_find (G := G) (d := d - 1) (x := x) y0 ynd
  by_cases hn : nod (aN A) x = 0
  · rw [show sp_text A x w i = (A, -1) by
      unfold sp_text
      rw [chs_no]
      rintro ⟨c, n, k, j, ⟨n1, n2, rfl, n3⟩, -⟩
      rw [nod_at n1 n2 n3] at hn
      omega]
    rw [hn] at cf
    refine jd_met (ls := [.ref 64, .int x, .int w, .int i, .retAddr 0, .retAddr 0]) rfl rfl rfl ?_
    refine ia_go 2 rfl ?_
    refine jd_cV 64 [.int x] [] 0 0 (d' := d - 1) rfl rfl rfl y0 rfl rfl (by omega) (by omega) (by omega) (cf) ?_
    rintro rv h' ⟨rfl, hh⟩
    subst hh
    rw [show rn na 0 = .null from rfl]
    refine ia_go 1 rfl ?_
    dsimp only [ia_s1, ia_s2, ia_cl, ia_D, List.getElem?_cons_zero, List.getElem?_cons_succ, List.set_cons_zero, List.set_cons_succ]
    refine ia_go 2 rfl ?_
    refine ia_go 3 rfl ?_
    dsimp only [ia_s1, ia_s2, ia_cl, ia_D, List.getElem?_cons_zero, List.getElem?_cons_succ, List.set_cons_zero, List.set_cons_succ]
    refine ia_go 2 rfl ?_
    refine ia_go 2 rfl ?_
    exact jd_rv1 rfl rfl rfl trivial (cx_same y')
  · obtain ⟨⟨n1, n2⟩, ex, n3⟩ := nod_in hn
    rw [show rn na (nod (aN A) x) = .ref (na (nod (aN A) x)) from if_neg hn] at cf
    generalize nod (aN A) x = n at n1 n2 n3 cf hn ex
    subst ex
    have yn' := yn.1 n n1 n2 n3
    obtain ⟨a0, a1, st, e, -⟩ := id yn'
    have wr := cl_wr (G := G) (d := d - 1) yn' w
    refine jd_met (ls := [.ref 64, .int (nI n), .int w, .int i, .retAddr 0, .retAddr 0]) rfl rfl rfl ?_
    refine ia_go 2 rfl ?_
    refine jd_cV 64 [.int (nI n)] [] 0 0 (d' := d - 1) rfl rfl rfl y0 rfl rfl (by omega) (by omega) (by omega) (cf) ?_
    rintro rv h' ⟨rfl, hh⟩
    subst hh
    refine ia_go 1 rfl ?_
    dsimp only [ia_s1, ia_s2, ia_cl, ia_D, List.getElem?_cons_zero, List.getElem?_cons_succ, List.set_cons_zero, List.set_cons_succ]
    refine ia_go 2 rfl ?_
    refine ia_go 2 rfl ?_
    refine jd_cV (na n) [.int w] [] 0 0 (d' := d - 1) rfl rfl rfl e rfl rfl (by omega) (by omega) (by omega) (wr) ?_
    rintro rv h' ⟨hh, hr⟩
    subst hh
    obtain ⟨k, a, rfl, hk, rfl, ta⟩ | ⟨nk, rfl⟩ := hr
    rotate_left
    · rw [show sp_text A (nI n) w i = (A, -1) by
        unfold sp_text
        rw [chs_no]
        rintro ⟨c, n', k, j, ⟨n1', n2', en, n3'⟩, ⟨hk, rfl⟩, -⟩
        cases (nI_eq (by omega) (by omega)).mp en
        exact nk ⟨k, rfl, hk⟩]
      refine ia_go 1 rfl ?_
      dsimp only [ia_s1, ia_s2, ia_cl, ia_D, List.getElem?_cons_zero, List.getElem?_cons_succ, List.set_cons_zero, List.set_cons_succ]
      refine ia_go 2 rfl ?_
      refine ia_go 2 rfl ?_
      exact jd_rv1 rfl rfl rfl trivial (cx_same y')
    · have kn := ncw_le (zL (aN A n))
      obtain ⟨wv, r, f, ha, hw, hf, hch, hl, -⟩ := id ta
      by_cases i0 : i < 0
      · rw [show sp_text A (nI n) (nI k) i = (A, -1) by
          unfold sp_text
          rw [chs_no]
          rintro ⟨c, n', k', j, -, -, ⟨rfl, j1⟩, -⟩
          exact absurd i0 (nI_pos (by omega))]
        refine ia_go 1 rfl ?_
        dsimp only [ia_s1, ia_s2, ia_cl, ia_D, List.getElem?_cons_zero, List.getElem?_cons_succ, List.set_cons_zero, List.set_cons_succ]
        refine ia_go 2 rfl ?_
        refine ia_go 2 rfl ?_
        rw [if_pos (by exact i0)]
        refine ia_go 2 rfl ?_
        exact jd_rv1 rfl rfl rfl trivial (cx_same y')
      · obtain ⟨j, hj, rfl⟩ := nI_of i0
        by_cases jl : j < (zT (aN A n) k).length
        · have hcj : (zT (aN A n) k)[j]? = some (zT (aN A n) k)[j] := List.getElem?_eq_getElem jl
          have hcc := hch _ (List.getElem_mem jl)
          have tc : tcN (aN A) (nI n) (nI k) (nI j) (zT (aN A n) k)[j] := ⟨n, k, j, ⟨n1, n2, rfl, n3⟩, ⟨hk, rfl⟩, ⟨rfl, by omega⟩, hcj⟩
          rw [show sp_text A (nI n) (nI k) (nI j) = (A, (zT (aN A n) k)[j]) by
            unfold sp_text
            rw [chs_eq tc (fun c' q => tcN_un tc q)]]
          refine ia_go 1 rfl ?_
          dsimp only [ia_s1, ia_s2, ia_cl, ia_D, List.getElem?_cons_zero, List.getElem?_cons_succ, List.set_cons_zero, List.set_cons_succ]
          refine ia_go 2 rfl ?_
          refine ia_go 2 rfl ?_
          rw [if_neg (by exact i0)]
          refine ia_go 2 rfl ?_
          refine jd_cV a [] [.int (nI j)] 0 0 (d' := d - 1) rfl rfl rfl ha rfl rfl (by omega) (by omega) (by omega) (jd_slen (by omega) ha hw) ?_
          rintro rv h' ⟨rfl, hh⟩
          refine ia_go 1 rfl ?_
          subst hh
          rw [if_pos (by exact (nI_lt jl (by omega)))]
          refine ia_go 2 rfl ?_
          refine jd_cV a [.int (nI j)] [] 0 0 (d' := d - 1) rfl rfl rfl ha rfl rfl (by omega) (by omega) (by omega) (jd_char (by omega) ha hw (by omega) jl (hf j _ hcj) hcc.1 hcc.2) ?_
          rintro rv h' ⟨rfl, hh⟩
          subst hh
          exact jd_rv1 rfl rfl rfl trivial (cx_same y')
        · rw [show sp_text A (nI n) (nI k) (nI j) = (A, -1) by
            unfold sp_text
            rw [chs_no]
            rintro ⟨c, n', k', j', ⟨n1', n2', en, n3'⟩, ⟨hk', ek⟩, ⟨ej, j1⟩, g⟩
            have kn' := ncw_le (zL (aN A n'))
            cases (nI_eq (by omega) (by omega)).mp en
            cases (nI_eq (by omega) (by omega)).mp ek
            cases (nI_eq hj (by omega)).mp ej
            exact jl (List.getElem?_eq_some_iff.mp g).1]
          refine ia_go 1 rfl ?_
          dsimp only [ia_s1, ia_s2, ia_cl, ia_D, List.getElem?_cons_zero, List.getElem?_cons_succ, List.set_cons_zero, List.set_cons_succ]
          refine ia_go 2 rfl ?_
          refine ia_go 2 rfl ?_
          rw [if_neg (by exact i0)]
          refine ia_go 2 rfl ?_
          refine jd_cV a [] [.int (nI j)] 0 0 (d' := d - 1) rfl rfl rfl ha rfl rfl (by omega) (by omega) (by omega) (jd_slen (by omega) ha hw) ?_
          rintro rv h' ⟨rfl, hh⟩
          refine ia_go 1 rfl ?_
          subst hh
          rw [if_neg (by exact (nI_nlt (by omega) (by omega)))]
          refine ia_go 2 rfl ?_
          exact jd_rv1 rfl rfl rfl trivial (cx_same y')
