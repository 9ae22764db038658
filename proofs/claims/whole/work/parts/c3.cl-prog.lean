/-! THE CLASS, 13: program, instruction. -/
theorem CY.cd {A : aS} {h h' : ia_H} {u c1 v c2 s : Nat} {na sa : Nat → Nat} (y : CY A h u c1 v c2 na sa) (x : cs h h' s) : CY A h' u c1 v c2 na sa ∧ sx_fr h h' cx_S ∧ ks h h' u v u v := by
  obtain ⟨⟨y0, yb, ysl, ynd, ydr, yjg, ycd, yar, yk⟩, ⟨v1, v2, v3, v4⟩, yn⟩ := y
  have lb := yb.lt
  have ld := ydr.2.lt
  have hf := x.2.2.1
  have z : ∀ q, q < h.2 → (q < 76 ∨ 110 < q) → h'.1 q = h.1 q := fun q q1 q2 => hf.2 q q1 (fun w => by have := w.1; have := w.2; omega)
  have k : ks h h' u v u v := cd_ks ycd hf
  exact ⟨⟨⟨(z 64 (by omega) (by omega)).trans y0, yb.keep (z 65 (by omega) (by omega)) (z u lb.2.1 (by omega)) hf.1, ysl.keep k (z 67 (by omega) (by omega)) (fun i hi => z _ (by omega) (by omega)), ynd.keep (z 68 (by omega) (by omega)), ydr.keep (z 69 (by omega) (by omega)) (z 70 (by omega) (by omega)) (z v ld.2.1 (by omega)) hf.1, yjg.keep (fun q _ _ => z q (by omega) (by omega)), x.2.1, yar.keep (z 111 (by omega) (by omega)) (z 112 (by omega) (by omega)), yk.keep k⟩, ⟨v1, v2, v3, by have := hf.1; omega⟩, yn.keep k (fun q q1 q2 _ => z q q2 (by omega)) hf.1⟩, hf.mono (fun q hq => by have := hq.1; have := hq.2; unfold cx_S rm_S; omega), k⟩
/-- what lies there when there is a program -/
def lyp (h h' : ia_H) (u v : Nat) (N : Nat → nN) : Prop := cs h h' (pgN N).length ∧ crw h' u v (fun n => zG (N n)) 0 (pgN N)
theorem pgN_eq (N : Nat → nN) : pgN N = cdN N 16 1 0 ++ [(4, 0, 0)] := rfl
theorem pgN_32 {N : Nat → nN} (hA : ∀ n, 1 ≤ n → n ≤ 16 → AN N n) (h : zE (N 1) = true) : (cdN N 16 1 0).length ≤ 32 := by
  have hN : ∀ n, 1 ≤ n → n ≤ 16 → ∀ (x : nN), True := fun _ _ _ _ => trivial
  let F : Nat → Nat → Int32 := fun k n => if k = 2 then (if zE (N n) = true then 1 else 0) else 0
  have ex : ∀ n, F 2 n ≠ 0 ↔ zE (N n) = true := by
    intro n
    show (if zE (N n) = true then (1 : Int32) else 0) ≠ 0 ↔ _
    by_cases z : zE (N n) = true
    · rw [if_pos z]; exact ⟨fun _ => z, fun _ => by decide⟩
    · rw [if_neg z]; exact ⟨fun w => absurd rfl w, fun w => absurd w z⟩
  have kp' : kp F (fun n => zL (N n)) (fun n => zK (N n)) (fun n => zM (N n)) (pP N) (fun n => zR (N n)) := by
    intro n h1 h2 h3
    have e := (ex n).mp h3
    obtain ⟨-, -, -, ⟨k1, -⟩, ⟨k2, -⟩, -⟩ := hA n h1 h2 e
    refine ⟨fun z => ?_, fun z => ?_⟩
    · obtain ⟨⟨a1, a2, a3⟩, a4⟩ := k1 z
      exact ⟨⟨a1, a2, (ex _).mpr a3⟩, (pP_n a1).trans a4, (hA _ a1 a2).rank a3 a4 h1⟩
    · obtain ⟨⟨a1, a2, a3⟩, a4, a5⟩ := k2 z
      exact ⟨⟨a1, a2, (ex _).mpr a3⟩, (pP_n a1).trans a4, (hA _ a1 a2).rank a3 a4 h1, a5⟩
  exact cd_32 kp' (by omega) (by omega) ((ex 1).mpr h)
theorem cl_layout {G : ia_G} {h : ia_H} {d u v : Nat} {na sa : Nat → Nat} {N : Nat → nN} (hd : 35 ≤ d) (hA : ∀ n, 1 ≤ n → n ≤ 16 → AN N n) (yn : CN N h u v na sa) (h142 : 142 ≤ h.2) (hcd : cx_cd h) (h1 : zE (N 1) = true) : ia_Cn pg G kk_C_layOut d 0 0 [.ref 76, .ref (na 1)] h (fun rv h' => rv = none ∧ lyp h h' u v N) := by
  have l32 := pgN_32 hA h1
  obtain ⟨⟨s0, e76⟩, y77, yr⟩ := id hcd
  have x0 : cs h (ia_up h.1 76 (.inr (1, [.ref 77, .int (nI 0)])), h.2) 0 := by
    obtain ⟨f, e77, g⟩ := y77
    refine ⟨rfl, ⟨⟨_, rfl⟩, ⟨f, e77, g⟩, fun i hi => ?_⟩, ⟨Nat.le_refl _, fun q _ hS => ia_up_ne (fun z => hS (by rw [z]; exact ⟨by omega, by omega⟩))⟩, rfl⟩
    obtain ⟨k, g, p, e⟩ := yr i hi
    exact ⟨k, g, p, (ia_up_ne (by omega)).trans e⟩
  refine jd_met (ls := [.ref 76, .ref (na 1)]) rfl rfl rfl ?_
  refine ia_go 2 rfl ?_
  refine ia_putf rfl e76 (by omega) rfl rfl rfl rfl ?_
  refine ia_go 3 rfl ?_
  refine jd_cV 76 [.ref (na 1), .int 1] [] 0 0 (d' := d - 1) rfl rfl rfl x0.1 rfl rfl (by omega) (by omega) (by omega) (cl_lay hA yn h142 hcd 16 (d - 1) 1 0 _ (by omega) (by omega) (by omega) (by omega) h1 x0 (by omega)) ?_
  rintro rv h1' ⟨rfl, x1, w1, -⟩
  refine ia_go 4 rfl ?_
  refine jd_cV 76 [.int 4, .int 0, .null] [] 0 0 (d' := d - 1) rfl rfl rfl x1.1 rfl rfl (by omega) (by omega) (by omega) (cl_add0 x1 (by omega)) ?_
  rintro rv h2' ⟨rfl, x2, r2, k2⟩
  refine ia_go 1 rfl ?_
  refine jd_rv0 rfl rfl rfl ⟨rfl, ?_, ?_⟩
  · rw [pgN_eq, List.length_append]
    rw [Nat.zero_add] at x2
    exact x2
  · rw [pgN_eq]
    refine crw_app (w1.keep (x1.ks x2 hcd) (fun i hi => k2 _ (by omega) (by omega))) ?_
    exact crw_cons (p := .null) r2 (fun z => by rcases z with z | z <;> exact absurd z (by show ¬ 4 = _; omega)) crw_nil
theorem cl_lop {G : ia_G} {h : ia_H} {d u c1 v c2 : Nat} {na sa : Nat → Nat} {A : aS} (hd : 36 ≤ d) (y : CY A h u c1 v c2 na sa) (hA : AI A) : ia_Cn pg G kk_R_layOutProgram d 0 0 [.ref 64] h (fun rv h' => (¬ ispN (aN A) ∧ rv = some (.int 0) ∧ h' = h) ∨ (ispN (aN A) ∧ rv = some (.int 1) ∧ lyp h h' u v (aN A))) := by
  have y0 := y.1.1
  have ynd := y.1.2.2.2.1
  obtain ⟨f, e68, g68⟩ := id ynd
  have f1 := g68 1 (by omega) (by omega)
  have v4 := y.2.1.2.2.2
  obtain ⟨⟨s0, e76⟩, -⟩ := id y.1.2.2.2.2.2.2.1
  by_cases h1 : zE (aN A 1) = true
  · rw [if_pos h1] at f1
    by_cases ho : osN (aN A) 16 ≤ 0
    ·
      refine jd_met (ls := [.ref 64]) rfl rfl rfl ?_
      refine ia_go 1 rfl ?_
      refine ia_getf rfl y0 rfl ?_
      refine ia_go 1 rfl ?_
      refine ia_aald rfl e68 (by unfold vp_in; decide) (v := .ref (na 1)) f1 ?_
      refine ia_go 1 rfl ?_
      refine ia_go 1 rfl ?_
      refine jd_cV 64 [] [] 0 0 (d' := d - 1) rfl rfl rfl y0 rfl rfl (by omega) (by omega) (by omega) (cl_open (by omega) y0 ynd y.2.2) ?_
      rintro rv h' ⟨rfl, hh⟩
      refine ia_go 1 rfl ?_
      subst hh
      rw [if_pos (by exact ho)]
      refine ia_go 1 rfl ?_
      refine ia_getf rfl y0 rfl ?_
      refine ia_go 1 rfl ?_
      refine ia_getf rfl y0 rfl ?_
      refine ia_go 1 rfl ?_
      refine ia_aald rfl e68 (by unfold vp_in; decide) (v := .ref (na 1)) f1 ?_
      refine jd_cV 76 [.ref (na 1)] [] 0 0 (d' := d - 1) rfl rfl rfl e76 rfl rfl (by omega) (by omega) (by omega) (cl_layout (by omega) hA.2.2.2.2 y.2.2 v4 y.1.2.2.2.2.2.2.1 h1) ?_
      rintro rv h' ⟨rfl, hx⟩
      refine ia_go 1 rfl ?_
      exact jd_rv1 rfl rfl rfl rfl (Or.inr ⟨⟨h1, ho⟩, rfl, hx⟩)
    ·
      refine jd_met (ls := [.ref 64]) rfl rfl rfl ?_
      refine ia_go 1 rfl ?_
      refine ia_getf rfl y0 rfl ?_
      refine ia_go 1 rfl ?_
      refine ia_aald rfl e68 (by unfold vp_in; decide) (v := .ref (na 1)) f1 ?_
      refine ia_go 1 rfl ?_
      refine ia_go 1 rfl ?_
      refine jd_cV 64 [] [] 0 0 (d' := d - 1) rfl rfl rfl y0 rfl rfl (by omega) (by omega) (by omega) (cl_open (by omega) y0 ynd y.2.2) ?_
      rintro rv h' ⟨rfl, hh⟩
      refine ia_go 1 rfl ?_
      subst hh
      rw [if_neg (by exact ho)]
      refine ia_go 1 rfl ?_
      exact jd_rv1 rfl rfl rfl rfl (Or.inl ⟨fun z => ho z.2, rfl, rfl⟩)
  · rw [if_neg h1] at f1
    refine jd_met (ls := [.ref 64]) rfl rfl rfl ?_
    refine ia_go 1 rfl ?_
    refine ia_getf rfl y0 rfl ?_
    refine ia_go 1 rfl ?_
    refine ia_aald rfl e68 (by unfold vp_in; decide) (v := .null) f1 ?_
    refine ia_go 1 rfl ?_
    refine ia_go 1 rfl ?_
    exact jd_rv1 rfl rfl rfl rfl (Or.inl ⟨fun z => h1 z.1, rfl, rfl⟩)
theorem cx_lyp {A : aS} {h h' : ia_H} {u c1 v c2 : Nat} {na sa : Nat → Nat} {x : Int32} (y : CY A h u c1 v c2 na sa) (l : lyp h h' u v (aN A)) : cx_P h 0 (A, x) (some (.int x)) h' := by
  obtain ⟨z1, z2, -⟩ := y.cd l.1
  exact ⟨rfl, ⟨_, _, _, _, _, _, z1⟩, z2, Nat.le_refl _⟩
theorem cx_program {G : ia_G} {h : ia_H} {d : Nat} {A : aS} (hd : 37 ≤ d) (y : CX A h) (hA : AI A) : ia_Cn pg G kk_R_program d 0 0 [.ref 64] h (cx_P h 0 (sp_program A)) := by
  have y' := y
  obtain ⟨u, c1, v, c2, na, sa, yy⟩ := y
  have y0 := yy.1.1
  refine jd_met (ls := [.ref 64]) rfl rfl rfl ?_
  refine ia_go 1 rfl ?_
  refine jd_cV 64 [] [] 0 0 (d' := d - 1) rfl rfl rfl y0 rfl rfl (by omega) (by omega) (by omega) (cl_lop (by omega) yy hA) ?_
  rintro rv h' hr
  obtain ⟨i, rfl, hh⟩ | ⟨i, rfl, hx⟩ := hr
  · subst hh
    rw [show sp_program A = (A, -2) by unfold sp_program; rw [ch_neg i]]
    refine ia_go 1 rfl ?_
    rw [if_pos (by exact rfl)]
    refine ia_go 1 rfl ?_
    exact jd_rv1 rfl rfl rfl trivial (cx_same y')
  · rw [show sp_program A = (A, nI (pgN (aN A)).length) by unfold sp_program; rw [ch_pos i]]
    have yc := (yy.cd hx.1).1
    refine ia_go 1 rfl ?_
    rw [if_neg (by exact (by decide))]
    refine ia_go 1 rfl ?_
    refine ia_getf rfl yc.1.1 rfl ?_
    refine ia_getf rfl hx.1.1 rfl ?_
    refine ia_go 1 rfl ?_
    exact jd_rv1 rfl rfl rfl trivial (cx_lyp yy hx)
theorem cx_instruction {G : ia_G} {h : ia_H} {d : Nat} {A : aS} {x y1 : Int32} (hd : 37 ≤ d) (y : CX A h) (hA : AI A) : ia_Cn pg G kk_R_instruction d 0 0 [.ref 64, .int x, .int y1] h (cx_P h 0 (sp_instruction A x y1)) := by
  have y' := y
  obtain ⟨u, c1, v, c2, na, sa, yy⟩ := y
  have y0 := yy.1.1
  refine jd_met (ls := [.ref 64, .int x, .int y1]) rfl rfl rfl ?_
  refine ia_go 1 rfl ?_
  refine jd_cV 64 [] [] 0 0 (d' := d - 1) rfl rfl rfl y0 rfl rfl (by omega) (by omega) (by omega) (cl_lop (by omega) yy hA) ?_
  rintro rv h' hr
  obtain ⟨i, rfl, hh⟩ | ⟨i, rfl, hx⟩ := hr
  · subst hh
    rw [show sp_instruction A x y1 = (A, -2) by unfold sp_instruction; rw [ch_neg i]]
    refine ia_go 1 rfl ?_
    rw [if_neg (by exact (fun z => z rfl))]
    refine ia_go 1 rfl ?_
    exact jd_rv1 rfl rfl rfl trivial (cx_same y')
  · have l33 : (pgN (aN A)).length ≤ 33 := by
      have := pgN_32 hA.2.2.2.2 i.1
      rw [pgN_eq, List.length_append]; show _ + 1 ≤ 33; omega
    rw [show sp_instruction A x y1 = (A, chs (inv (pgN (aN A)) x y1)) by unfold sp_instruction; rw [ch_pos i]]
    have yc := (yy.cd hx.1).1
    obtain ⟨f, e77, g77⟩ := hx.1.2.1.2.1
    by_cases x0 : x < 0
    · rw [chs_no (P := inv (pgN (aN A)) x y1) (by rintro ⟨v, j, q, rfl, hq, -⟩; have := (List.getElem?_eq_some_iff.mp hq).1; exact absurd x0 (nI_pos (by omega)))]
      refine ia_go 1 rfl ?_
      rw [if_pos (by exact (by decide))]
      refine ia_go 2 rfl ?_
      rw [if_pos (by exact x0)]
      refine ia_go 1 rfl ?_
      exact jd_rv1 rfl rfl rfl trivial (cx_lyp yy hx)
    obtain ⟨j, hj, rfl⟩ := nI_of x0
    by_cases jl : j < (pgN (aN A)).length
    rotate_left
    · rw [chs_no (P := inv (pgN (aN A)) (nI j) y1) (by
        rintro ⟨v, j', q, e, hq, -⟩
        have l := (List.getElem?_eq_some_iff.mp hq).1
        cases (nI_eq hj (by omega)).mp e
        exact jl l)]
      refine ia_go 1 rfl ?_
      rw [if_pos (by exact (by decide))]
      refine ia_go 2 rfl ?_
      rw [if_neg (by exact x0)]
      refine ia_go 2 rfl ?_
      refine ia_getf rfl yc.1.1 rfl ?_
      refine ia_getf rfl hx.1.1 rfl ?_
      refine ia_go 1 rfl ?_
      rw [if_pos (by exact (nI_le (by omega) hj))]
      refine ia_go 1 rfl ?_
      exact jd_rv1 rfl rfl rfl trivial (cx_lyp yy hx)
    have hq : (pgN (aN A))[j]? = some (pgN (aN A))[j] := List.getElem?_eq_getElem jl
    obtain ⟨p, er, -⟩ := hx.2 j _ hq
    rw [Nat.zero_add] at er
    generalize (pgN (aN A))[j] = q at hq er
    by_cases y0' : y1 = 0
    · subst y0'
      have iv : inv (pgN (aN A)) (nI j) 0 (nI q.1) := ⟨j, q, rfl, hq, Or.inl ⟨rfl, rfl⟩⟩
      rw [chs_eq (P := inv (pgN (aN A)) (nI j) 0) iv (fun v' z => inv_un (by omega) iv z)]
      refine ia_go 1 rfl ?_
      rw [if_pos (by exact (by decide))]
      refine ia_go 2 rfl ?_
      rw [if_neg (by exact x0)]
      refine ia_go 2 rfl ?_
      refine ia_getf rfl yc.1.1 rfl ?_
      refine ia_getf rfl hx.1.1 rfl ?_
      refine ia_go 1 rfl ?_
      rw [if_neg (by exact (nI_ge jl (by omega)))]
      refine ia_go 2 rfl ?_
      rw [if_neg (by exact (by decide))]
      refine ia_go 3 rfl ?_
      rw [if_pos (by exact (by decide))]
      refine ia_go 2 rfl ?_
      rw [if_neg (by exact (fun z => z rfl))]
      refine ia_go 1 rfl ?_
      refine ia_getf rfl yc.1.1 rfl ?_
      refine ia_getf rfl hx.1.1 rfl ?_
      refine ia_go 1 rfl ?_
      refine ia_aald rfl e77 (vp_in_nI (by omega) (by omega)) (v := .ref (78 + j)) (by rw [nI_clamp (by omega), g77 j (by omega)]) ?_
      refine ia_getf rfl er rfl ?_
      refine ia_go 1 rfl ?_
      exact jd_rv1 rfl rfl rfl trivial (cx_lyp yy hx)
    by_cases y1' : y1 = 1
    · subst y1'
      have iv : inv (pgN (aN A)) (nI j) 1 (nI q.2.1) := ⟨j, q, rfl, hq, Or.inr ⟨rfl, rfl⟩⟩
      rw [chs_eq (P := inv (pgN (aN A)) (nI j) 1) iv (fun v' z => inv_un (by omega) iv z)]
      refine ia_go 1 rfl ?_
      rw [if_pos (by exact (by decide))]
      refine ia_go 2 rfl ?_
      rw [if_neg (by exact x0)]
      refine ia_go 2 rfl ?_
      refine ia_getf rfl yc.1.1 rfl ?_
      refine ia_getf rfl hx.1.1 rfl ?_
      refine ia_go 1 rfl ?_
      rw [if_neg (by exact (nI_ge jl (by omega)))]
      refine ia_go 2 rfl ?_
      rw [if_neg (by exact (by decide))]
      refine ia_go 3 rfl ?_
      rw [if_pos (by exact (by decide))]
      refine ia_go 2 rfl ?_
      rw [if_pos (by exact (by decide))]
      refine ia_go 1 rfl ?_
      refine ia_getf rfl yc.1.1 rfl ?_
      refine ia_getf rfl hx.1.1 rfl ?_
      refine ia_go 1 rfl ?_
      refine ia_aald rfl e77 (vp_in_nI (by omega) (by omega)) (v := .ref (78 + j)) (by rw [nI_clamp (by omega), g77 j (by omega)]) ?_
      refine ia_getf rfl er rfl ?_
      exact jd_rv1 rfl rfl rfl trivial (cx_lyp yy hx)
    rw [chs_no (P := inv (pgN (aN A)) (nI j) y1) (by rintro ⟨v, j', q, e, hq, z | z⟩; exact y0' z.1; exact y1' z.1)]
    by_cases yn : y1 < 0
    ·
      refine ia_go 1 rfl ?_
      rw [if_pos (by exact (by decide))]
      refine ia_go 2 rfl ?_
      rw [if_neg (by exact x0)]
      refine ia_go 2 rfl ?_
      refine ia_getf rfl yc.1.1 rfl ?_
      refine ia_getf rfl hx.1.1 rfl ?_
      refine ia_go 1 rfl ?_
      rw [if_neg (by exact (nI_ge jl (by omega)))]
      refine ia_go 2 rfl ?_
      rw [if_pos (by exact yn)]
      refine ia_go 1 rfl ?_
      exact jd_rv1 rfl rfl rfl trivial (cx_lyp yy hx)
    · have y2 : ¬ y1 ≤ 1 := fun z => by
        obtain ⟨k, hk, rfl⟩ := nI_of2 (M := 1) (n := 1) (by decide) yn z
        rcases (show k = 0 ∨ k = 1 by omega) with rfl | rfl
        · exact y0' rfl
        · exact y1' rfl
      refine ia_go 1 rfl ?_
      rw [if_pos (by exact (by decide))]
      refine ia_go 2 rfl ?_
      rw [if_neg (by exact x0)]
      refine ia_go 2 rfl ?_
      refine ia_getf rfl yc.1.1 rfl ?_
      refine ia_getf rfl hx.1.1 rfl ?_
      refine ia_go 1 rfl ?_
      rw [if_neg (by exact (nI_ge jl (by omega)))]
      refine ia_go 2 rfl ?_
      rw [if_neg (by exact yn)]
      refine ia_go 3 rfl ?_
      rw [if_neg (by exact y2)]
      refine ia_go 1 rfl ?_
      exact jd_rv1 rfl rfl rfl trivial (cx_lyp yy hx)
