/-! THE CLASS, 15: run. -/
def eF (N : Nat → nN) : Nat → Nat → Int32 := fun k n => if k = 2 then (if zE (N n) = true then 1 else 0) else 0
theorem eF_ex (N : Nat → nN) (n : Nat) : eF N 2 n ≠ 0 ↔ zE (N n) = true := by
  show (if zE (N n) = true then (1 : Int32) else 0) ≠ 0 ↔ _
  by_cases z : zE (N n) = true
  · rw [if_pos z]; exact ⟨fun _ => z, fun _ => by decide⟩
  · rw [if_neg z]; exact ⟨fun w => absurd rfl w, fun w => absurd w z⟩
theorem eF_kp {N : Nat → nN} (hA : ∀ n, 1 ≤ n → n ≤ 16 → AN N n) : kp (eF N) (fun n => zL (N n)) (fun n => zK (N n)) (fun n => zM (N n)) (pP N) (fun n => zR (N n)) := by
  intro n h1 h2 h3
  have e := (eF_ex N n).mp h3
  obtain ⟨-, -, -, ⟨k1, -⟩, ⟨k2, -⟩, -⟩ := hA n h1 h2 e
  refine ⟨fun z => ?_, fun z => ?_⟩
  · obtain ⟨⟨a1, a2, a3⟩, a4⟩ := k1 z
    exact ⟨⟨a1, a2, (eF_ex N _).mpr a3⟩, (pP_n a1).trans a4, (hA _ a1 a2).rank a3 a4 h1⟩
  · obtain ⟨⟨a1, a2, a3⟩, a4, a5⟩ := k2 z
    exact ⟨⟨a1, a2, (eF_ex N _).mpr a3⟩, (pP_n a1).trans a4, (hA _ a1 a2).rank a3 a4 h1, a5⟩
theorem pgN_cwp {N : Nat → nN} (hA : ∀ n, 1 ≤ n → n ≤ 16 → AN N n) (h1 : zE (N 1) = true) : cwp (pgN N) (fun n => zG (N n)) := by
  have h32 := pgN_32 hA h1
  have h := eF_kp hA
  have hF1 := (eF_ex N 1).mpr h1
  have hlen : (pgN N).length = (cdN N 16 1 0).length + 1 := by rw [pgN_eq]; simp
  refine ⟨by omega, fun a ha => ?_⟩
  by_cases hlt : a < (cdN N 16 1 0).length
  · have e : kn (pgN N) a = (cdN N 16 1 0)[a] := by
      unfold kn
      rw [pgN_eq, List.getD_eq_getElem?_getD, List.getElem?_append_left hlt, List.getElem?_eq_getElem hlt]
      rfl
    have hq := cd_ok (fun n => zL (N n)) (fun n => zK (N n)) (fun n => zM (N n)) (fun n => zV (N n)) 16 1 0 _ (List.getElem_mem hlt)
    rw [← e] at hq
    have hl2 : (cd (fun n => zL (N n)) (fun n => zK (N n)) (fun n => zM (N n)) (fun n => zV (N n)) 16 1 0).length = (cdN N 16 1 0).length := rfl
    rcases hq with ⟨q1, q2, q3, q4⟩ | ⟨q1, q2, q3, q4⟩ | ⟨q1, q2⟩
    · obtain ⟨⟨m1, m2, m3⟩, -⟩ := nds_up h 16 1 _ (by omega) (by omega) hF1 q4
      obtain ⟨-, -, -, -, -, -, v2, -⟩ := hA _ m1 m2 ((eF_ex N _).mp m3)
      obtain ⟨w1, w2, w3, w4⟩ := v2 q3
      exact Or.inr (Or.inl ⟨q1, by rw [q2]; exact w1, by omega, w2, w3, w4⟩)
    · obtain ⟨⟨m1, m2, m3⟩, -⟩ := nds_up h 16 1 _ (by omega) (by omega) hF1 q4
      obtain ⟨-, -, -, -, -, -, -, v4, -⟩ := hA _ m1 m2 ((eF_ex N _).mp m3)
      obtain ⟨w1, w2⟩ := v4 q3
      exact Or.inr (Or.inr (Or.inl ⟨q1, by omega, by omega, w1, w2⟩))
    · exact Or.inr (Or.inr (Or.inr ⟨q1, by omega⟩))
  · have ea : a = (cdN N 16 1 0).length := by omega
    have e : kn (pgN N) a = (4, 0, 0) := by
      unfold kn
      rw [pgN_eq, List.getD_eq_getElem?_getD, List.getElem?_append_right (by omega), ea, Nat.sub_self]
      rfl
    rw [e]
    exact Or.inl rfl
theorem cwp.k4 {C : List (Nat × Nat × Nat)} {gt : Nat → List Int32} (h : cwp C gt) {a : Nat} (ha : a < C.length) : (kn C a).1 ≤ 4 := by
  rcases h.2 a ha with z | ⟨z, -⟩ | ⟨z, -⟩ | ⟨z, -⟩ <;> omega
theorem cl_rnloop {G : ia_G} {h1 : ia_H} {d u v rr1 N : Nat} {C : List (Nat × Nat × Nat)} {gt : Nat → List Int32} {cc va vb vc : Int32} {Post : Option Value → ia_H → Prop} {res : Nat × Nat × (Nat → Int32)} (hd : 8 ≤ d) (y0 : cx_0 h1 cc rr1) (h142 : 142 ≤ h1.2) (hcd : cx_cd h1) (hjg : cx_jg h1) (h112 : ∃ f, h1.1 112 = some (.inl (.int, 3, f))) (hC : crw h1 u v gt 0 C) (hw : cwp C gt) (hN : N ≤ 1000) (kk : ∀ h, rnh h1 h C u v gt res.2.2 → res.2.1 < C.length → ia_Sx pg G kk_R_run d 0 0 105 [.ref 64, .int va, .int vb, .int vc, .int (nI N), .int (nI res.2.1), .int (nI res.1)] [] h Post) : ∀ (m a : Nat) (st : Nat → Int32) (dn : Nat), dn + m = N → a < C.length → rr C gt m a st dn = res → ∀ h : ia_H, rnh h1 h C u v gt st → s8 st → ia_Sx pg G kk_R_run d 0 0 61 [.ref 64, .int va, .int vb, .int vc, .int (nI N), .int (nI a), .int (nI dn)] [] h Post := by
  intro m
  induction m with
  | zero =>
    intro a st dn hdn ha hr h x hs
    obtain rfl : dn = N := by omega
    have hr' : (dn, a, st) = res := hr
    subst hr'
    refine ia_go 3 rfl ?_
    rw [if_pos (by exact (Int32.le_refl _))]
    exact kk h x ha
  | succ m ih =>
    intro a st dn hdn ha hr h x hs
    have e64 : h.1 64 = _ := (x.row h142 (q := 64) (by omega) (by omega) (by omega)).trans y0
    obtain ⟨⟨s0, e76⟩, -⟩ := id hcd
    have e76' := (x.row h142 (q := 76) (by omega) (by omega) (by omega)).trans e76
    have en := cl_isEnd (G := G) (d := d - 1) x h142 hcd hC hw.1 ha (hw.k4 ha)
    by_cases z : (kn C a).1 = 4
    · have hr' : (dn, a, st) = res := by rw [← hr]; exact (if_pos z).symm
      subst hr'
      rw [if_pos z] at en
      refine ia_go 3 rfl ?_
      rw [if_neg (by exact (nI_ge (by omega) (by omega)))]
      refine ia_go 1 rfl ?_
      refine ia_getf rfl e64 rfl ?_
      refine ia_go 1 rfl ?_
      refine jd_cV 76 [.int (nI a)] [] 0 0 (d' := d - 1) rfl rfl rfl e76' rfl rfl (by omega) (by omega) (by omega) (en) ?_
      rintro rv h' ⟨rfl, hh⟩
      refine ia_go 1 rfl ?_
      subst hh
      rw [if_pos (by exact (by decide))]
      exact kk _ x ha
    · have hr' : rr C gt m (ra C gt a st) (rt C gt a st) (dn + 1) = res := by rw [← hr]; exact (if_neg z).symm
      rw [if_neg z] at en
      refine ia_go 3 rfl ?_
      rw [if_neg (by exact (nI_ge (by omega) (by omega)))]
      refine ia_go 1 rfl ?_
      refine ia_getf rfl e64 rfl ?_
      refine ia_go 1 rfl ?_
      refine jd_cV 76 [.int (nI a)] [] 0 0 (d' := d - 1) rfl rfl rfl e76' rfl rfl (by omega) (by omega) (by omega) (en) ?_
      rintro rv h' ⟨rfl, hh⟩
      refine ia_go 1 rfl ?_
      subst hh
      rw [if_neg (by exact (fun w => w rfl))]
      refine ia_go 1 rfl ?_
      refine ia_getf rfl e64 rfl ?_
      refine ia_go 2 rfl ?_
      refine ia_getf rfl e64 rfl ?_
      refine ia_go 1 rfl ?_
      refine ia_getf rfl e64 rfl ?_
      refine jd_cV 76 [.int (nI a), .ref 112, .ref 72] [] 0 0 (d' := d - 1) rfl rfl rfl e76' rfl rfl (by omega) (by omega) (by omega) (cl_next (by omega) x h142 hcd hjg h112 hC hw hs ha z) ?_
      rintro rv h2 ⟨rfl, x2, s2, l2⟩
      refine ia_go 1 rfl ?_
      dsimp only [ia_s1, ia_s2, ia_cl, ia_D, List.getElem?_cons_zero, List.getElem?_cons_succ, List.set_cons_zero, List.set_cons_succ]
      refine ia_go 1 rfl ?_
      dsimp only [ia_s1, ia_s2, ia_cl, ia_D, List.getElem?_cons_zero, List.getElem?_cons_succ, List.set_cons_zero, List.set_cons_succ]
      refine ia_go 1 rfl ?_
      rw [show nI dn + Int32.ofInt 1 = nI (dn + 1) from nI_1 dn]
      exact ih _ _ (dn + 1) (by omega) l2 hr' h2 x2 s2
/-- the state behind a run -/
theorem CY.rn {A : aS} {h h' : ia_H} {u c1 v c2 : Nat} {na sa : Nat → Nat} {W : Nat → Int32} (y : CY A h u c1 v c2 na sa) (e64 : cx_0 h' (W 3) (aR A)) (hj : cx_jg h') (h112 : ∃ g, h'.1 112 = some (.inl (.int, 3, g)) ∧ ∀ j, j < 3 → g j = .int (W j)) (hf : sx_fr h h' (fun q => jg_S q ∨ q = 112 ∨ q = 64)) : CY (aB A, aQ A, aN A, aR A, aD A, W) h' u c1 v c2 na sa ∧ sx_fr h h' cx_S := by
  obtain ⟨⟨y0, yb, ysl, ynd, ydr, yjg, ycd, yar, yk⟩, ⟨v1, v2, v3, v4⟩, yn⟩ := y
  have lb := yb.lt
  have ld := ydr.2.lt
  have z : ∀ q, q < h.2 → (q < 72 ∨ 75 < q) → q ≠ 112 → q ≠ 64 → h'.1 q = h.1 q := fun q q1 q2 q3 q4 => hf.2 q q1 (fun w => by
    rcases w with w | w | w
    · have := w.1; have := w.2; omega
    · exact q3 w
    · exact q4 w)
  have zc : ∀ q, q < 117 → (q < 72 ∨ 75 < q) → q ≠ 112 → q ≠ 64 → h'.1 q = h.1 q := fun q q1 q2 q3 q4 => z q (by omega) q2 q3 q4
  have k : ks h h' u v u v := by
    refine ks_fr hf (fun q hq => ?_) (Or.inl rfl) (Or.inl rfl)
    right; right
    rcases hq with hq | rfl | rfl
    · obtain ⟨F1, F2, F3, n, j⟩ := yjg
      exact jg_off j q hq
    · obtain ⟨-, f, e, -⟩ := yar
      exact ⟨fun r w => (by rw [e] at w; cases w), fun n f w => (by rw [e] at w; cases w)⟩
    · exact ⟨fun r w => (by rw [y0] at w; cases w), fun n f w => (by rw [y0] at w; cases w)⟩
  refine ⟨⟨⟨e64, yb.keep (zc 65 (by omega) (by omega) (by omega) (by omega)) (z u lb.2.1 (by omega) (by omega) (by omega)) hf.1, ysl.keep k (zc 67 (by omega) (by omega) (by omega) (by omega)) (fun i hi => zc _ (by omega) (by omega) (by omega) (by omega)), ynd.keep (zc 68 (by omega) (by omega) (by omega) (by omega)), ydr.keep (zc 69 (by omega) (by omega) (by omega) (by omega)) (zc 70 (by omega) (by omega) (by omega) (by omega)) (z v ld.2.1 (by omega) (by omega) (by omega)) hf.1, hj, ycd.keep (fun q _ _ => zc q (by omega) (by omega) (by omega) (by omega)), ⟨?_, h112⟩, yk.keep k⟩, ⟨v1, v2, v3, by have := hf.1; omega⟩, yn.keep k (fun q q1 q2 _ => z q q2 (by omega) (by omega) (by omega)) hf.1⟩, hf.mono (fun q hq => ?_)⟩
  · obtain ⟨⟨f, e, g⟩, -⟩ := yar
    exact ⟨f, (zc 111 (by omega) (by omega) (by omega) (by omega)).trans e, g⟩
  · unfold cx_S rm_S
    rcases hq with hq | hq | hq
    · have := hq.1; have := hq.2; omega
    · omega
    · omega
theorem cx_run {G : ia_G} {h : ia_H} {d : Nat} {A : aS} {va vb vc x : Int32} (hd : 37 ≤ d) (y : CX A h) (hA : AI A) : ia_Cn pg G kk_R_run d 0 0 [.ref 64, .int va, .int vb, .int vc, .int x] h (cx_P h 0 (sp_run A va vb vc x)) := by
  have y' := y
  obtain ⟨u, c1, v, c2, na, sa, yy⟩ := y
  have y0 := yy.1.1
  refine jd_met (ls := [.ref 64, .int va, .int vb, .int vc, .int x, .retAddr 0, .retAddr 0]) rfl rfl rfl ?_
  refine ia_go 1 rfl ?_
  refine jd_cV 64 [] [] 0 0 (d' := d - 1) rfl rfl rfl y0 rfl rfl (by omega) (by omega) (by omega) (cl_lop (by omega) yy hA) ?_
  rintro rv h1 hr
  obtain ⟨i, rfl, hh⟩ | ⟨i, rfl, hx⟩ := hr
  · subst hh
    rw [show sp_run A va vb vc x = (A, -2) by unfold sp_run; rw [ch_neg i]]
    refine ia_go 1 rfl ?_
    rw [if_neg (by exact (fun z => z rfl))]
    refine ia_go 1 rfl ?_
    exact jd_rv1 rfl rfl rfl trivial (cx_same y')
  by_cases x0 : x < 0
  · rw [show sp_run A va vb vc x = (A, -1) by unfold sp_run; rw [ch_pos i, ch_neg (by rintro ⟨N, hN, rfl⟩; exact absurd x0 (nI_pos (by omega)))]]
    refine ia_go 1 rfl ?_
    rw [if_pos (by exact (by decide))]
    refine ia_go 2 rfl ?_
    rw [if_pos (by exact x0)]
    refine ia_go 1 rfl ?_
    exact jd_rv1 rfl rfl rfl trivial (cx_lyp yy hx)
  by_cases x1 : x ≤ 1000
  rotate_left
  · rw [show sp_run A va vb vc x = (A, -1) by unfold sp_run; rw [ch_pos i, ch_neg (by rintro ⟨N, hN, rfl⟩; exact x1 (nI_le (b := 1000) hN (by omega)))]]
    refine ia_go 1 rfl ?_
    rw [if_pos (by exact (by decide))]
    refine ia_go 2 rfl ?_
    rw [if_neg (by exact x0)]
    refine ia_go 3 rfl ?_
    rw [if_neg (by exact x1)]
    refine ia_go 1 rfl ?_
    exact jd_rv1 rfl rfl rfl trivial (cx_lyp yy hx)
  obtain ⟨N, hN, rfl⟩ := nI_of2 (M := 1000) (n := 1000) (by decide) x0 x1
  rw [show sp_run A va vb vc (nI N) = ((aB A, aQ A, aN A, aR A, aD A, rnW (aN A) (runN (aN A) va vb vc N)), nI (runN (aN A) va vb vc N).1) by unfold sp_run; rw [ch_pos i, ch_pos ⟨N, hN, rfl⟩, nI_clamp (by omega)]]
  obtain ⟨yc, fc, kc⟩ := yy.cd hx.1
  have v4 := yc.2.1.2.2.2
  have e64 := yc.1.1
  obtain ⟨f, e112, g112⟩ := yc.1.2.2.2.2.2.2.2.1.2
  have hw := pgN_cwp hA.2.2.2.2 i.1
  have lenpos : 0 < (pgN (aN A)).length := by rw [pgN_eq, List.length_append]; show 0 < _ + 1; omega
  refine ia_go 1 rfl ?_
  rw [if_pos (by exact (by decide))]
  refine ia_go 2 rfl ?_
  rw [if_neg (by exact x0)]
  refine ia_go 3 rfl ?_
  rw [if_pos (by exact x1)]
  refine ia_go 1 rfl ?_
  refine ia_getf rfl e64 rfl ?_
  refine ia_go 4 rfl ?_
  refine ia_iast rfl e112 (by omega) (by unfold vp_in; decide) ?_
  refine ia_go 1 rfl ?_
  refine ia_getf rfl e64 rfl ?_
  refine ia_go 4 rfl ?_
  refine ia_iast rfl rfl (by omega) (by unfold vp_in; decide) ?_
  refine ia_go 1 rfl ?_
  refine ia_getf rfl e64 rfl ?_
  refine ia_go 4 rfl ?_
  refine ia_iast rfl rfl (by omega) (by unfold vp_in; decide) ?_
  refine ia_gen (Q := fun h2 => rnh h1 h2 (pgN (aN A)) u v (fun n => zG (aN A n)) (rn_0 va vb vc)) ?st (fun h2 x2 => ?_)
  rotate_left
  refine ia_go 2 rfl ?_
  dsimp only [ia_s1, ia_s2, ia_cl, ia_D, List.getElem?_cons_zero, List.getElem?_cons_succ, List.set_cons_zero, List.set_cons_succ]
  refine ia_go 2 rfl ?_
  dsimp only [ia_s1, ia_s2, ia_cl, ia_D, List.getElem?_cons_zero, List.getElem?_cons_succ, List.set_cons_zero, List.set_cons_succ]
  refine cl_rnloop (res := runN (aN A) va vb vc N) (by omega) e64 v4 yc.1.2.2.2.2.2.2.1 yc.1.2.2.2.2.2.1 ⟨f, e112⟩ hx.2 hw hN (fun h3 x3 l3 => ?_) N 0 (rn_0 va vb vc) 0 (by omega) lenpos rfl h2 x2 ?s8
  case st =>
    have up : ∀ q, q ≠ 112 → ∀ X Y Z, (ia_up (ia_up (ia_up h1.1 112 X) 112 Y) 112 Z, h1.2).1 q = h1.1 q := fun q hq _ _ _ => (ia_up_ne hq).trans ((ia_up_ne hq).trans (ia_up_ne hq))
    refine ⟨yc.1.2.2.2.2.2.1.keep (fun q w1 w2 => up q (by omega) _ _ _), ⟨_, rfl, fun j hj => ?_⟩, ⟨Nat.le_refl _, fun q _ hS => up q (fun w => hS (Or.inr w)) _ _ _⟩, rfl⟩
    rcases (show j = 0 ∨ j = 1 ∨ j = 2 by omega) with rfl | rfl | rfl <;> rfl
  case s8 =>
    intro j hj
    rcases (show j = 0 ∨ j = 1 ∨ j = 2 by omega) with rfl | rfl | rfl
    · exact and7 va
    · exact and7 vb
    · exact and7 vc
  generalize hres : runN (aN A) va vb vc N = res at x3 l3 ⊢
  have e643 : h3.1 64 = _ := (x3.row v4 (q := 64) (by omega) (by omega) (by omega)).trans e64
  obtain ⟨⟨s0, e76⟩, -⟩ := id yc.1.2.2.2.2.2.2.1
  have e763 := (x3.row v4 (q := 76) (by omega) (by omega) (by omega)).trans e76
  have en := cl_isEnd (G := G) (d := d - 1) x3 v4 yc.1.2.2.2.2.2.2.1 hx.2 hw.1 l3 (hw.k4 l3)
  have w3 : rnW (aN A) res 3 = if (kn (pgN (aN A)) res.2.1).1 = 4 then 1 else 0 := rfl
  rw [← w3] at en
  have w01 : rnW (aN A) res 3 = 0 ∨ rnW (aN A) res 3 = 1 := by rw [w3]; split; exact Or.inr rfl; exact Or.inl rfl
  have nwz : narrow .boolean (.int (rnW (aN A) res 3)) = .int (rnW (aN A) res 3) ∧ fits .boolean (.int (rnW (aN A) res 3)) = true := by rcases w01 with z | z <;> rw [z] <;> exact ⟨rfl, rfl⟩
  refine ia_go 2 rfl ?_
  refine ia_getf rfl e643 rfl ?_
  refine ia_go 1 rfl ?_
  refine jd_cV 76 [.int (nI res.2.1)] [.ref 64] 0 0 (d' := d - 1) rfl rfl rfl e763 rfl rfl (by omega) (by omega) (by omega) (en) ?_
  rintro rv h4 ⟨rfl, hh⟩
  subst hh
  refine ia_putf rfl e643 (by omega) rfl rfl nwz.1 nwz.2 ?_
  refine ia_go 1 rfl ?_
  refine jd_rv1 rfl rfl rfl trivial ?_
  obtain ⟨hj3, ⟨f3, e3, g3⟩, hf3, hs3⟩ := x3
  have zz := yc.rn (h' := (ia_up h4.1 64 (.inr (0, [.ref 65, .ref 67, .ref 68, .ref 69, .ref 72, .ref 76, .ref 111, .ref 112, .int (rnW (aN A) res 3), .int (nI (aR A))])), h4.2)) (W := rnW (aN A) res) rfl (hj3.keep (fun q w1 w2 => ia_up_ne (by omega))) ⟨f3, e3, fun j hj => by rw [g3 j hj]; show _ = Value.int (if j < 3 then res.2.2 j else _); rw [if_pos hj]⟩ ⟨hf3.1, fun q hq hS => (ia_up_ne (fun w => hS (Or.inr (Or.inr w)))).trans (hf3.2 q hq (fun w => hS (w.imp id Or.inl)))⟩
  exact ⟨rfl, ⟨_, _, _, _, _, _, zz.1⟩, fc.tr zz.2, Nat.le_refl _⟩
