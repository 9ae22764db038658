/-! THE CLASS, 12: the code is laid out. -/
def cd_S (q : Nat) : Prop := 76 ≤ q ∧ q ≤ 110
/-- s instructions lie there -/
def cs (h0 h : ia_H) (s : Nat) : Prop := h.1 76 = some (.inr (1, [.ref 77, .int (nI s)])) ∧ cx_cd h ∧ sx_fr h0 h cd_S ∧ h.2 = h0.2
/-- this code lies from b on -/
def crw (h : ia_H) (u v : Nat) (gt : Nat → List Int32) (b : Nat) (C : List (Nat × Nat × Nat)) : Prop := ∀ i q, C[i]? = some q → ∃ p, h.1 (78 + (b + i)) = some (.inr (3, [.int (nI q.1), .int (nI q.2.1), p])) ∧ (q.1 = 1 ∨ q.1 = 2 → ∃ a, p = .ref a ∧ tt h u v a (gt q.2.2))
section CC
variable {G : ia_G} {h0 h : ia_H} {d s u v : Nat} {na sa : Nat → Nat} {N : Nat → nN} {gt : Nat → List Int32}
theorem crw_nil {b : Nat} : crw h u v gt b [] := fun i q hq => by simp at hq
theorem crw_cons {b : Nat} {q : Nat × Nat × Nat} {C : List (Nat × Nat × Nat)} {p : Value} (h1 : h.1 (78 + b) = some (.inr (3, [.int (nI q.1), .int (nI q.2.1), p]))) (h2 : q.1 = 1 ∨ q.1 = 2 → ∃ a, p = .ref a ∧ tt h u v a (gt q.2.2)) (hC : crw h u v gt (b + 1) C) : crw h u v gt b (q :: C) := by
  intro i q' hq
  cases i with
  | zero => cases hq; exact ⟨p, h1, h2⟩
  | succ i =>
    have := hC i q' hq
    rw [show b + 1 + i = b + (i + 1) by omega] at this
    exact this
theorem crw_app {b : Nat} {A B : List (Nat × Nat × Nat)} (hA : crw h u v gt b A) (hB : crw h u v gt (b + A.length) B) : crw h u v gt b (A ++ B) := by
  intro i q hq
  by_cases z : i < A.length
  · rw [List.getElem?_append_left z] at hq; exact hA i q hq
  · rw [List.getElem?_append_right (by omega)] at hq
    have := hB _ q hq
    rw [show b + A.length + (i - A.length) = b + i by omega] at this
    exact this
theorem crw.keep {h' : ia_H} {b : Nat} {C : List (Nat × Nat × Nat)} (x : crw h u v gt b C) (k : ks h h' u v u v) (hk : ∀ i, i < C.length → h'.1 (78 + (b + i)) = h.1 (78 + (b + i))) : crw h' u v gt b C := by
  intro i q hq
  obtain ⟨p, e, z⟩ := x i q hq
  exact ⟨p, (hk i (List.getElem?_eq_some_iff.mp hq).1).trans e, fun w => by obtain ⟨a, ea, t⟩ := z w; exact ⟨a, ea, k _ _ t⟩⟩
/-- writing code touches no String -/
theorem cd_ks {h' : ia_H} (y : cx_cd h) (hf : sx_fr h h' cd_S) : ks h h' u v u v := by
  obtain ⟨⟨s, e⟩, ⟨f, e2, g⟩, y⟩ := y
  refine ks_fr hf (fun q hq => ?_) (Or.inl rfl) (Or.inl rfl)
  right; right
  have q1 := hq.1
  have q2 := hq.2
  by_cases z : q = 76
  · rw [z]; exact ⟨fun r w => (by rw [e] at w; cases w), fun n f w => (by rw [e] at w; cases w)⟩
  · by_cases z2 : q = 77
    · rw [z2]; exact ⟨fun r w => (by rw [e2] at w; cases w), fun n f w => (by rw [e2] at w; cases w)⟩
    · obtain ⟨k, g, p, e3⟩ := y (q - 78) (by omega)
      rw [show 78 + (q - 78) = q by omega] at e3
      exact ⟨fun r w => (by rw [e3] at w; cases w), fun n f w => (by rw [e3] at w; cases w)⟩
theorem cs.put {h' : ia_H} {s' i : Nat} {k g : Int32} {p : Value} (x : cs h0 h s) (hi : i < 33) (h2 : h'.2 = h.2) (e76 : h'.1 76 = some (.inr (1, [.ref 77, .int (nI s')]))) (ei : h'.1 (78 + i) = some (.inr (3, [.int k, .int g, p]))) (hk : ∀ q, q ≠ 76 → q ≠ 78 + i → h'.1 q = h.1 q) : cs h0 h' s' := by
  obtain ⟨-, ⟨-, ⟨f, e2, gf⟩, y⟩, hf, hs⟩ := x
  refine ⟨e76, ⟨⟨_, e76⟩, ⟨f, (hk 77 (by omega) (by omega)).trans e2, gf⟩, fun j hj => ?_⟩, ⟨by have := hf.1; omega, fun q hq hS => ?_⟩, by omega⟩
  · by_cases z : j = i
    · rw [z]; exact ⟨k, g, p, ei⟩
    · obtain ⟨k', g', p', e'⟩ := y j hj
      exact ⟨k', g', p', (hk _ (by omega) (by omega)).trans e'⟩
  · rw [hk q (fun z => hS (by rw [z]; exact ⟨by omega, by omega⟩)) (fun z => hS (by rw [z]; exact ⟨by omega, by omega⟩))]
    exact hf.2 q hq hS
theorem cl_add0 {k g : Int32} (x : cs h0 h s) (hs : s < 33) : ia_Cn pg G kk_C_add d 0 0 [.ref 76, .int k, .int g, .null] h (fun rv h' => rv = some (.int (nI s)) ∧ cs h0 h' (s + 1) ∧ h'.1 (78 + s) = some (.inr (3, [.int k, .int g, .null])) ∧ ∀ q, q ≠ 76 → q ≠ 78 + s → h'.1 q = h.1 q) := by
  obtain ⟨e76, ⟨-, ⟨f, e77, gf⟩, y⟩, -⟩ := id x
  obtain ⟨k0, g0, p0, ei⟩ := y s hs
  refine jd_met (ls := [.ref 76, .int k, .int g, .null, .retAddr 0]) rfl rfl rfl ?_
  refine ia_go 1 rfl ?_
  refine ia_getf rfl e76 rfl ?_
  refine ia_go 1 rfl ?_
  dsimp only [ia_s1, ia_s2, ia_cl, ia_D, List.getElem?_cons_zero, List.getElem?_cons_succ, List.set_cons_zero, List.set_cons_succ]
  refine ia_go 1 rfl ?_
  refine ia_getf rfl e76 rfl ?_
  refine ia_go 1 rfl ?_
  refine ia_aald rfl e77 (vp_in_nI hs (by omega)) (v := .ref (78 + s)) (by rw [nI_clamp (by omega), gf s hs]) ?_
  refine ia_go 1 rfl ?_
  refine ia_putf rfl ei (by omega) rfl rfl rfl rfl ?_
  refine ia_go 1 rfl ?_
  refine ia_getf rfl ((ia_up_ne (by omega)).trans e76) rfl ?_
  refine ia_go 1 rfl ?_
  refine ia_aald rfl ((ia_up_ne (by omega)).trans e77) (vp_in_nI hs (by omega)) (v := .ref (78 + s)) (by rw [nI_clamp (by omega), gf s hs]) ?_
  refine ia_go 1 rfl ?_
  refine ia_putf rfl ia_up_same (by omega) rfl rfl rfl rfl ?_
  refine ia_go 1 rfl ?_
  refine ia_getf rfl ((ia_up_ne (by omega)).trans ((ia_up_ne (by omega)).trans e76)) rfl ?_
  refine ia_go 1 rfl ?_
  refine ia_aald rfl ((ia_up_ne (by omega)).trans ((ia_up_ne (by omega)).trans e77)) (vp_in_nI hs (by omega)) (v := .ref (78 + s)) (by rw [nI_clamp (by omega), gf s hs]) ?_
  refine ia_go 1 rfl ?_
  refine ia_putf rfl ia_up_same (by omega) rfl rfl rfl rfl ?_
  refine ia_go 2 rfl ?_
  refine ia_getf rfl ((ia_up_ne (by omega)).trans ((ia_up_ne (by omega)).trans ((ia_up_ne (by omega)).trans e76))) rfl ?_
  refine ia_go 2 rfl ?_
  rw [nI_1]
  refine ia_putf rfl ((ia_up_ne (by omega)).trans ((ia_up_ne (by omega)).trans ((ia_up_ne (by omega)).trans e76))) (by omega) rfl rfl rfl rfl ?_
  refine ia_go 1 rfl ?_
  refine jd_rv1 rfl rfl rfl trivial ⟨rfl, x.put hs rfl rfl ((ia_up_ne (by omega)).trans ia_up_same) ?_, (ia_up_ne (by omega)).trans ia_up_same, ?_⟩
  · exact fun q q1 q2 => (ia_up_ne q1).trans ((ia_up_ne q2).trans ((ia_up_ne q2).trans (ia_up_ne q2)))
  · exact fun q q1 q2 => (ia_up_ne q1).trans ((ia_up_ne q2).trans ((ia_up_ne q2).trans (ia_up_ne q2)))
theorem cl_add1 {k g : Int32} {a : Nat} (x : cs h0 h s) (hs : s < 33) : ia_Cn pg G kk_C_add d 0 0 [.ref 76, .int k, .int g, .ref a] h (fun rv h' => rv = some (.int (nI s)) ∧ cs h0 h' (s + 1) ∧ h'.1 (78 + s) = some (.inr (3, [.int k, .int g, .ref a])) ∧ ∀ q, q ≠ 76 → q ≠ 78 + s → h'.1 q = h.1 q) := by
  obtain ⟨e76, ⟨-, ⟨f, e77, gf⟩, y⟩, -⟩ := id x
  obtain ⟨k0, g0, p0, ei⟩ := y s hs
  refine jd_met (ls := [.ref 76, .int k, .int g, .ref a, .retAddr 0]) rfl rfl rfl ?_
  refine ia_go 1 rfl ?_
  refine ia_getf rfl e76 rfl ?_
  refine ia_go 1 rfl ?_
  dsimp only [ia_s1, ia_s2, ia_cl, ia_D, List.getElem?_cons_zero, List.getElem?_cons_succ, List.set_cons_zero, List.set_cons_succ]
  refine ia_go 1 rfl ?_
  refine ia_getf rfl e76 rfl ?_
  refine ia_go 1 rfl ?_
  refine ia_aald rfl e77 (vp_in_nI hs (by omega)) (v := .ref (78 + s)) (by rw [nI_clamp (by omega), gf s hs]) ?_
  refine ia_go 1 rfl ?_
  refine ia_putf rfl ei (by omega) rfl rfl rfl rfl ?_
  refine ia_go 1 rfl ?_
  refine ia_getf rfl ((ia_up_ne (by omega)).trans e76) rfl ?_
  refine ia_go 1 rfl ?_
  refine ia_aald rfl ((ia_up_ne (by omega)).trans e77) (vp_in_nI hs (by omega)) (v := .ref (78 + s)) (by rw [nI_clamp (by omega), gf s hs]) ?_
  refine ia_go 1 rfl ?_
  refine ia_putf rfl ia_up_same (by omega) rfl rfl rfl rfl ?_
  refine ia_go 1 rfl ?_
  refine ia_getf rfl ((ia_up_ne (by omega)).trans ((ia_up_ne (by omega)).trans e76)) rfl ?_
  refine ia_go 1 rfl ?_
  refine ia_aald rfl ((ia_up_ne (by omega)).trans ((ia_up_ne (by omega)).trans e77)) (vp_in_nI hs (by omega)) (v := .ref (78 + s)) (by rw [nI_clamp (by omega), gf s hs]) ?_
  refine ia_go 1 rfl ?_
  refine ia_putf rfl ia_up_same (by omega) rfl rfl rfl rfl ?_
  refine ia_go 2 rfl ?_
  refine ia_getf rfl ((ia_up_ne (by omega)).trans ((ia_up_ne (by omega)).trans ((ia_up_ne (by omega)).trans e76))) rfl ?_
  refine ia_go 2 rfl ?_
  rw [nI_1]
  refine ia_putf rfl ((ia_up_ne (by omega)).trans ((ia_up_ne (by omega)).trans ((ia_up_ne (by omega)).trans e76))) (by omega) rfl rfl rfl rfl ?_
  refine ia_go 1 rfl ?_
  refine jd_rv1 rfl rfl rfl trivial ⟨rfl, x.put hs rfl rfl ((ia_up_ne (by omega)).trans ia_up_same) ?_, (ia_up_ne (by omega)).trans ia_up_same, ?_⟩
  · exact fun q q1 q2 => (ia_up_ne q1).trans ((ia_up_ne q2).trans ((ia_up_ne q2).trans (ia_up_ne q2)))
  · exact fun q q1 q2 => (ia_up_ne q1).trans ((ia_up_ne q2).trans ((ia_up_ne q2).trans (ia_up_ne q2)))
theorem cl_lay0 {z : Int32} : ia_Cn pg G kk_C_layOutNode d 0 0 [.ref 76, .null, .int z] h (fun rv h' => rv = none ∧ h' = h) := by
  refine jd_met (ls := [.ref 76, .null, .int z, .retAddr 0]) rfl rfl rfl ?_
  refine ia_go 2 rfl ?_
  exact jd_rv0 rfl rfl rfl ⟨rfl, rfl⟩
/-- what laying out a node does -/
def ly (h0 h h' : ia_H) (u v : Nat) (gt : Nat → List Int32) (s : Nat) (C : List (Nat × Nat × Nat)) : Prop := cs h0 h' (s + C.length) ∧ crw h' u v gt s C ∧ ∀ i, i < s → h'.1 (78 + i) = h.1 (78 + i)
theorem cs.ks {a b : Nat} {h' : ia_H} (x : cs h0 h a) (y : cs h0 h' b) (hh : cx_cd h0) : ks h h' u v u v := by
  refine cd_ks x.2.1 ⟨by have := x.2.2.2; have := y.2.2.2; omega, fun q hq hS => ?_⟩
  rw [y.2.2.1.2 q (by have := x.2.2.2; omega) hS, x.2.2.1.2 q (by have := x.2.2.2; omega) hS]
/-- the code of a node of the state -/
def cdN (N : Nat → nN) : Nat → Nat → Nat → List (Nat × Nat × Nat) := cd (fun n => zL (N n)) (fun n => zK (N n)) (fun n => zM (N n)) (fun n => zV (N n))
/-- the size alone, a goal -/
theorem cs.old (x : cs h0 h s) {q : Nat} (h1 : q < h0.2) (h2 : 142 ≤ q) : h.1 q = h0.1 q := x.2.2.1.2 q h1 (fun z => by have := z.2; omega)
theorem cl_alt {k n : Nat} {C : List (Nat × Nat × Nat)} {a0 b0 pt : Nat} {l c1 c2 o vv : Value} (hd : 1 ≤ d) (k16 : k + 1 ≤ 16) (es : h0.1 (sa n) = some (.inr (7, [l, .ref (na a0), .ref (na b0), c1, c2, o, vv, .ref pt]))) (s1 : 142 ≤ sa n) (s2 : sa n < h0.2) (tp : tt h0 u v pt (gt n)) (h142 : 142 ≤ h0.2) (hcd : cx_cd h0) {c1' c2' : Nat → List (Nat × Nat × Nat)}
    (IH1 : ∀ (s : Nat) (h : ia_H), cs h0 h s → s + (c1' s).length ≤ 32 → ia_Cn pg G kk_C_layOutNode (d - 1) 0 0 [.ref 76, .ref (na a0), .int (nI (17 - k))] h (fun rv h' => rv = none ∧ ly h0 h h' u v gt s (c1' s)))
    (IH2 : ∀ (s : Nat) (h : ia_H), cs h0 h s → s + (c2' s).length ≤ 32 → ia_Cn pg G kk_C_layOutNode (d - 1) 0 0 [.ref 76, .ref (na b0), .int (nI (17 - k))] h (fun rv h' => rv = none ∧ ly h0 h h' u v gt s (c2' s)))
    (hC : C = (2, s + 1 + (c1' (s + 1)).length + 1, n) :: (c1' (s + 1) ++ (3, s + 1 + (c1' (s + 1)).length + 1 + (c2' (s + 1 + (c1' (s + 1)).length + 1)).length, 0) :: c2' (s + 1 + (c1' (s + 1)).length + 1))) (x : cs h0 h s) (hl : s + C.length ≤ 32) : ia_Cn pg G kk_C_layOutAlternative d 0 0 [.ref 76, .ref (sa n), .int (nI (17 - (k + 1)))] h (fun rv h' => rv = none ∧ ly h0 h h' u v gt s C) := by
  have hlen : C.length = (c1' (s + 1)).length + (c2' (s + 1 + (c1' (s + 1)).length + 1)).length + 2 := by rw [hC]; simp; omega
  generalize hm : (c1' (s + 1)).length = m at *
  generalize hq : (c2' (s + 1 + m + 1)).length = m2 at *
  have dep : nI (17 - (k + 1)) + 1 = nI (17 - k) := by rw [nI_1]; congr 1; omega
  refine jd_met (ls := [.ref 76, .ref (sa n), .int (nI (17 - (k + 1))), .retAddr 0, .retAddr 0]) rfl rfl rfl ?_
  refine ia_go 4 rfl ?_
  refine ia_getf rfl ((x.old s2 s1).trans es) rfl ?_
  refine jd_cV 76 [.int 2, .int 0, .ref pt] [] 0 0 (d' := d - 1) rfl rfl rfl x.1 rfl rfl (by omega) (by omega) (by omega) (cl_add1 x (by omega)) ?_
  rintro rv h1 ⟨rfl, x1, r1, k1⟩
  refine ia_go 1 rfl ?_
  dsimp only [ia_s1, ia_s2, ia_cl, ia_D, List.getElem?_cons_zero, List.getElem?_cons_succ, List.set_cons_zero, List.set_cons_succ]
  refine ia_go 2 rfl ?_
  refine ia_getf rfl ((x1.old s2 s1).trans es) rfl ?_
  refine ia_go 3 rfl ?_
  rw [dep]
  refine jd_cV 76 [.ref (na a0), .int (nI (17 - k))] [] 0 0 (d' := d - 1) rfl rfl rfl x1.1 rfl rfl (by omega) (by omega) (by omega) (IH1 (s + 1) h1 x1 (by omega)) ?_
  rintro rv h2 ⟨rfl, x2, w2, m2'⟩
  rw [hm] at x2
  refine ia_go 4 rfl ?_
  refine jd_cV 76 [.int 3, .int 0, .null] [] 0 0 (d' := d - 1) rfl rfl rfl x2.1 rfl rfl (by omega) (by omega) (by omega) (cl_add0 x2 (by omega)) ?_
  rintro rv h3 ⟨rfl, x3, r3, k3⟩
  refine ia_go 1 rfl ?_
  dsimp only [ia_s1, ia_s2, ia_cl, ia_D, List.getElem?_cons_zero, List.getElem?_cons_succ, List.set_cons_zero, List.set_cons_succ]
  obtain ⟨f3, e77, g77⟩ := x3.2.1.2.1
  have ra : h3.1 (78 + s) = some (.inr (3, [.int 2, .int 0, .ref pt])) := (k3 (78 + s) (by omega) (by omega)).trans ((m2' s (by omega)).trans r1)
  refine ia_go 1 rfl ?_
  refine ia_getf rfl x3.1 rfl ?_
  refine ia_go 1 rfl ?_
  refine ia_aald rfl e77 (vp_in_nI (by omega) (by omega)) (v := .ref (78 + s)) (by rw [nI_clamp (by omega), g77 s (by omega)]) ?_
  refine ia_go 1 rfl ?_
  refine ia_getf rfl x3.1 rfl ?_
  refine ia_putf rfl ra (by omega) rfl rfl rfl rfl ?_
  refine ia_go 2 rfl ?_
  refine ia_gen (Q := fun h4 => o1 h3 h4 (78 + s) (.inr (3, [.int 2, .int (nI (s + 1 + m + 1)), .ref pt]))) o1.up (fun h4 o4 => ?_)
  have x4 : cs h0 h4 (s + 1 + m + 1) := x3.put (show s < 33 by omega) o4.1 ((o4.2.2 76 (by omega)).trans x3.1) o4.2.1 (fun q _ hq => o4.2.2 q hq)
  refine ia_getf rfl ((x4.old s2 s1).trans es) rfl ?_
  refine ia_go 3 rfl ?_
  rw [dep]
  refine jd_cV 76 [.ref (na b0), .int (nI (17 - k))] [] 0 0 (d' := d - 1) rfl rfl rfl x4.1 rfl rfl (by omega) (by omega) (by omega) (IH2 (s + 1 + m + 1) h4 x4 (by rw [hq]; omega)) ?_
  rintro rv h5 ⟨rfl, x5, w5, m5⟩
  rw [hq] at x5
  obtain ⟨f5, e77', g77'⟩ := x5.2.1.2.1
  have rj : h5.1 (78 + (s + 1 + m)) = some (.inr (3, [.int 3, .int 0, .null])) := (m5 (s + 1 + m) (by omega)).trans ((o4.2.2 _ (by omega)).trans r3)
  refine ia_go 1 rfl ?_
  refine ia_getf rfl x5.1 rfl ?_
  refine ia_go 1 rfl ?_
  refine ia_aald rfl e77' (vp_in_nI (by omega) (by omega)) (v := .ref (78 + (s + 1 + m))) (by rw [nI_clamp (by omega), g77' (s + 1 + m) (by omega)]) ?_
  refine ia_go 1 rfl ?_
  refine ia_getf rfl x5.1 rfl ?_
  refine ia_putf rfl rj (by omega) rfl rfl rfl rfl ?_
  refine ia_gen (Q := fun h6 => o1 h5 h6 (78 + (s + 1 + m)) (.inr (3, [.int 3, .int (nI (s + 1 + m + 1 + m2)), .null]))) o1.up (fun h6 o6 => ?_)
  refine jd_rv0 rfl rfl rfl ⟨rfl, ?_, ?_, fun i hi => ?_⟩
  · have x6 : cs h0 h6 (s + 1 + m + 1 + m2) := x5.put (show s + 1 + m < 33 by omega) o6.1 ((o6.2.2 76 (by omega)).trans x5.1) o6.2.1 (fun q _ hq => o6.2.2 q hq)
    rw [hlen, show s + (m + m2 + 2) = s + 1 + m + 1 + m2 by omega]
    exact x6
  · have x6 : cs h0 h6 (s + 1 + m + 1 + m2) := x5.put (show s + 1 + m < 33 by omega) o6.1 ((o6.2.2 76 (by omega)).trans x5.1) o6.2.1 (fun q _ hq => o6.2.2 q hq)
    have k2 : ks h2 h6 u v u v := x2.ks x6 hcd
    have k5 : ks h5 h6 u v u v := x5.ks x6 hcd
    have k0 : ks h0 h6 u v u v := cd_ks hcd x6.2.2.1
    rw [hC]
    refine crw_cons (p := .ref pt) ?_ (fun _ => ⟨pt, rfl, k0 _ _ tp⟩) (crw_app (w2.keep k2 (fun i hi => ?_)) ?_)
    · exact (o6.2.2 _ (by omega)).trans ((m5 s (by omega)).trans o4.2.1)
    · have hi' : i < m := by rw [← hm]; exact hi
      exact (o6.2.2 _ (by omega)).trans ((m5 (s + 1 + i) (by omega)).trans ((o4.2.2 _ (by omega)).trans (k3 _ (by omega) (by omega))))
    · rw [hm]
      refine crw_cons (p := .null) o6.2.1 (fun z => by rcases z with z | z <;> exact absurd z (by show ¬ 3 = _; omega)) (w5.keep k5 (fun i hi => o6.2.2 _ (by omega)))
  · exact (o6.2.2 _ (by omega)).trans ((m5 i (by omega)).trans ((o4.2.2 _ (by omega)).trans ((k3 _ (by omega) (by omega)).trans ((m2' i (by omega)).trans (k1 _ (by omega) (by omega))))))
theorem cl_loop {k n : Nat} {C : List (Nat × Nat × Nat)} {a0 pt : Nat} {l k2 c1 c2 o vv : Value} (hd : 1 ≤ d) (k16 : k + 1 ≤ 16) (es : h0.1 (sa n) = some (.inr (7, [l, .ref (na a0), k2, c1, c2, o, vv, .ref pt]))) (s1 : 142 ≤ sa n) (s2 : sa n < h0.2) (tp : tt h0 u v pt (gt n)) (h142 : 142 ≤ h0.2) (hcd : cx_cd h0) {c1' : Nat → List (Nat × Nat × Nat)}
    (IH1 : ∀ (s : Nat) (h : ia_H), cs h0 h s → s + (c1' s).length ≤ 32 → ia_Cn pg G kk_C_layOutNode (d - 1) 0 0 [.ref 76, .ref (na a0), .int (nI (17 - k))] h (fun rv h' => rv = none ∧ ly h0 h h' u v gt s (c1' s)))
    (hC : C = (2, s + 1 + (c1' (s + 1)).length + 1, n) :: (c1' (s + 1) ++ [(3, s, 0)])) (x : cs h0 h s) (hl : s + C.length ≤ 32) : ia_Cn pg G kk_C_layOutLoop d 0 0 [.ref 76, .ref (sa n), .int (nI (17 - (k + 1)))] h (fun rv h' => rv = none ∧ ly h0 h h' u v gt s C) := by
  have hlen : C.length = (c1' (s + 1)).length + 2 := by rw [hC]; simp
  generalize hm : (c1' (s + 1)).length = m at *
  have dep : nI (17 - (k + 1)) + 1 = nI (17 - k) := by rw [nI_1]; congr 1; omega
  refine jd_met (ls := [.ref 76, .ref (sa n), .int (nI (17 - (k + 1))), .retAddr 0]) rfl rfl rfl ?_
  refine ia_go 4 rfl ?_
  refine ia_getf rfl ((x.old s2 s1).trans es) rfl ?_
  refine jd_cV 76 [.int 2, .int 0, .ref pt] [] 0 0 (d' := d - 1) rfl rfl rfl x.1 rfl rfl (by omega) (by omega) (by omega) (cl_add1 x (by omega)) ?_
  rintro rv h1 ⟨rfl, x1, r1, k1⟩
  refine ia_go 1 rfl ?_
  dsimp only [ia_s1, ia_s2, ia_cl, ia_D, List.getElem?_cons_zero, List.getElem?_cons_succ, List.set_cons_zero, List.set_cons_succ]
  refine ia_go 2 rfl ?_
  refine ia_getf rfl ((x1.old s2 s1).trans es) rfl ?_
  refine ia_go 3 rfl ?_
  rw [dep]
  refine jd_cV 76 [.ref (na a0), .int (nI (17 - k))] [] 0 0 (d' := d - 1) rfl rfl rfl x1.1 rfl rfl (by omega) (by omega) (by omega) (IH1 (s + 1) h1 x1 (by omega)) ?_
  rintro rv h2 ⟨rfl, x2, w2, m2'⟩
  rw [hm] at x2
  refine ia_go 4 rfl ?_
  refine jd_cV 76 [.int 3, .int (nI s), .null] [] 0 0 (d' := d - 1) rfl rfl rfl x2.1 rfl rfl (by omega) (by omega) (by omega) (cl_add0 x2 (by omega)) ?_
  rintro rv h3 ⟨rfl, x3, r3, k3⟩
  refine ia_go 1 rfl ?_
  obtain ⟨f3, e77, g77⟩ := x3.2.1.2.1
  have ra : h3.1 (78 + s) = some (.inr (3, [.int 2, .int 0, .ref pt])) := (k3 (78 + s) (by omega) (by omega)).trans ((m2' s (by omega)).trans r1)
  refine ia_go 1 rfl ?_
  refine ia_getf rfl x3.1 rfl ?_
  refine ia_go 1 rfl ?_
  refine ia_aald rfl e77 (vp_in_nI (by omega) (by omega)) (v := .ref (78 + s)) (by rw [nI_clamp (by omega), g77 s (by omega)]) ?_
  refine ia_go 1 rfl ?_
  refine ia_getf rfl x3.1 rfl ?_
  refine ia_putf rfl ra (by omega) rfl rfl rfl rfl ?_
  refine ia_gen (Q := fun h4 => o1 h3 h4 (78 + s) (.inr (3, [.int 2, .int (nI (s + 1 + m + 1)), .ref pt]))) o1.up (fun h4 o4 => ?_)
  have x4 : cs h0 h4 (s + 1 + m + 1) := x3.put (show s < 33 by omega) o4.1 ((o4.2.2 76 (by omega)).trans x3.1) o4.2.1 (fun q _ hq => o4.2.2 q hq)
  refine jd_rv0 rfl rfl rfl ⟨rfl, ?_, ?_, fun i hi => ?_⟩
  · rw [hlen, show s + (m + 2) = s + 1 + m + 1 by omega]
    exact x4
  · have k2 : ks h2 h4 u v u v := x2.ks x4 hcd
    have k0 : ks h0 h4 u v u v := cd_ks hcd x4.2.2.1
    rw [hC]
    refine crw_cons (p := .ref pt) o4.2.1 (fun _ => ⟨pt, rfl, k0 _ _ tp⟩) (crw_app (w2.keep k2 (fun i hi => ?_)) ?_)
    · have hi' : i < m := by rw [← hm]; exact hi
      exact (o4.2.2 _ (by omega)).trans (k3 _ (by omega) (by omega))
    · rw [hm]
      refine crw_cons (p := .null) ((o4.2.2 _ (by omega)).trans r3) (fun z => by rcases z with z | z <;> exact absurd z (by show ¬ 3 = _; omega)) crw_nil
  · exact (o4.2.2 _ (by omega)).trans ((k3 _ (by omega) (by omega)).trans ((m2' i (by omega)).trans (k1 _ (by omega) (by omega))))
theorem cl_lay (hA : ∀ n, 1 ≤ n → n ≤ 16 → AN N n) (yn : CN N h0 u v na sa) (h142 : 142 ≤ h0.2) (hcd : cx_cd h0) : ∀ (k d n s : Nat) (h : ia_H), 2 * k + 2 ≤ d → k ≤ 16 → 1 ≤ n → n ≤ 16 → zE (N n) = true → cs h0 h s → s + (cdN N k n s).length ≤ 32 → ia_Cn pg G kk_C_layOutNode d 0 0 [.ref 76, .ref (na n), .int (nI (17 - k))] h (fun rv h' => rv = none ∧ ly h0 h h' u v (fun n => zG (N n)) s (cdN N k n s)) := by
  intro k
  induction k with
  | zero =>
    intro d n s h hd k16 n1 n2 n3 x hl
    obtain ⟨a0, a1, st, e, -, -, nb, st0, st1⟩ := yn.1 n n1 n2 n3
    have nil : ly h0 h h u v (fun n => zG (N n)) s (cdN N 0 n s) := ⟨x, crw_nil, fun _ _ => rfl⟩
    by_cases l : zL (N n) = 0
    · obtain rfl := st0 l
      refine jd_met (ls := [.ref 76, .ref (na n), .int (nI (17 - 0)), .retAddr 0]) rfl rfl rfl ?_
      refine ia_go 2 rfl ?_
      refine ia_go 1 rfl ?_
      refine ia_getf rfl ((x.old nb.2 nb.1).trans e) rfl ?_
      refine ia_go 1 rfl ?_
      exact jd_rv0 rfl rfl rfl ⟨rfl, nil⟩
    · obtain ⟨rfl, -⟩ := st1 l
      refine jd_met (ls := [.ref 76, .ref (na n), .int (nI (17 - 0)), .retAddr 0]) rfl rfl rfl ?_
      refine ia_go 2 rfl ?_
      refine ia_go 1 rfl ?_
      refine ia_getf rfl ((x.old nb.2 nb.1).trans e) rfl ?_
      refine ia_go 1 rfl ?_
      refine ia_go 3 rfl ?_
      rw [if_neg (by exact (by decide))]
      exact jd_rv0 rfl rfl rfl ⟨rfl, nil⟩
  | succ k ih =>
    intro d n s h hd k16 n1 n2 n3 x hl
    obtain ⟨a0, a1, st, e, -, -, nb, st0, st1⟩ := yn.1 n n1 n2 n3
    obtain ⟨-, l8, -, ⟨k1, k1'⟩, ⟨k2, k2'⟩, -⟩ := hA n n1 n2 n3
    have dep : nI (17 - (k + 1)) + 1 = nI (17 - k) := by rw [nI_1]; congr 1; omega
    have dle : nI (17 - (k + 1)) ≤ 16 := nI_le (b := 16) (by omega) (by omega)
    have ec : cdN N (k + 1) n s = (if zL (N n) = 2 then [(1, zV (N n), n)]
      else if zL (N n) = 3 then cdN N k (zK (N n)) s ++ cdN N k (zM (N n)) (s + (cdN N k (zK (N n)) s).length)
      else if zL (N n) = 4 then (2, s + 1 + (cdN N k (zK (N n)) (s + 1)).length + 1, n) :: (cdN N k (zK (N n)) (s + 1) ++ (3, s + 1 + (cdN N k (zK (N n)) (s + 1)).length + 1 + (cdN N k (zM (N n)) (s + 1 + (cdN N k (zK (N n)) (s + 1)).length + 1)).length, 0) :: cdN N k (zM (N n)) (s + 1 + (cdN N k (zK (N n)) (s + 1)).length + 1))
      else if zL (N n) = 5 then (2, s + 1 + (cdN N k (zK (N n)) (s + 1)).length + 1, n) :: (cdN N k (zK (N n)) (s + 1) ++ [(3, s, 0)])
      else if 5 < zL (N n) then cdN N k (zK (N n)) s
      else []) := rfl
    by_cases l : zL (N n) = 0
    · obtain rfl := st0 l
      rw [ec, if_neg (by omega), if_neg (by omega), if_neg (by omega), if_neg (by omega), if_neg (by omega)]
      refine jd_met (ls := [.ref 76, .ref (na n), .int (nI (17 - (k + 1))), .retAddr 0]) rfl rfl rfl ?_
      refine ia_go 2 rfl ?_
      refine ia_go 1 rfl ?_
      refine ia_getf rfl ((x.old nb.2 nb.1).trans e) rfl ?_
      refine ia_go 1 rfl ?_
      exact jd_rv0 rfl rfl rfl ⟨rfl, x, crw_nil, fun _ _ => rfl⟩
    obtain ⟨rfl, c1, c2, vv, pt, es, -, -, hv, hp, s1, s2⟩ := st1 l
    have start : ∀ {Post : Option Value → ia_H → Prop}, ia_Sx pg G kk_C_layOutNode d 0 0 27 [.ref 76, .ref (na n), .int (nI (17 - (k + 1))), .ref (sa n)] [.int (nI (zL (N n)))] h Post → ia_Cn pg G kk_C_layOutNode d 0 0 [.ref 76, .ref (na n), .int (nI (17 - (k + 1)))] h Post := by
      intro Post kk
      refine jd_met (ls := [.ref 76, .ref (na n), .int (nI (17 - (k + 1))), .retAddr 0]) rfl rfl rfl ?_
      refine ia_go 2 rfl ?_
      refine ia_go 1 rfl ?_
      refine ia_getf rfl ((x.old nb.2 nb.1).trans e) rfl ?_
      refine ia_go 1 rfl ?_
      refine ia_go 3 rfl ?_
      rw [if_pos (by exact dle)]
      refine ia_go 1 rfl ?_
      refine ia_getf rfl ((x.old nb.2 nb.1).trans e) rfl ?_
      refine ia_go 1 rfl ?_
      dsimp only [ia_s1, ia_s2, ia_cl, ia_D, List.getElem?_cons_zero, List.getElem?_cons_succ, List.set_cons_zero, List.set_cons_succ]
      refine ia_go 1 rfl ?_
      refine ia_getf rfl ((x.old s2 s1).trans es) rfl ?_
      exact kk
    have kid : ∀ m s h, 1 ≤ m ∧ m ≤ 16 ∧ zE (N m) = true → cs h0 h s → s + (cdN N k m s).length ≤ 32 → ia_Cn pg G kk_C_layOutNode (d - 1) 0 0 [.ref 76, .ref (na m), .int (nI (17 - k))] h (fun rv h' => rv = none ∧ ly h0 h h' u v (fun n => zG (N n)) s (cdN N k m s)) := fun m s h hm xc hc => ih (d - 1) m s h (by omega) (by omega) hm.1 hm.2.1 hm.2.2 xc hc
    have kid2 : ∀ m s h, 1 ≤ m ∧ m ≤ 16 ∧ zE (N m) = true → cs h0 h s → s + (cdN N k m s).length ≤ 32 → ia_Cn pg G kk_C_layOutNode (d - 1 - 1) 0 0 [.ref 76, .ref (na m), .int (nI (17 - k))] h (fun rv h' => rv = none ∧ ly h0 h h' u v (fun n => zG (N n)) s (cdN N k m s)) := fun m s h hm xc hc => ih (d - 1 - 1) m s h (by omega) (by omega) hm.1 hm.2.1 hm.2.2 xc hc
    refine start ?_
    by_cases c2' : zL (N n) = 2
    · obtain ⟨a, rfl, ta⟩ := hp (Or.inl c2')
      rw [ec, if_pos c2'] at hl ⊢
      obtain rfl := hv c2'
      have hl' : s + 1 ≤ 32 := hl
      rw [c2'] at es ⊢
      refine ia_go 1 rfl ?_
      skip
      refine ia_go 3 rfl ?_
      refine ia_getf rfl ((x.old s2 s1).trans es) rfl ?_
      refine ia_go 1 rfl ?_
      refine ia_getf rfl ((x.old s2 s1).trans es) rfl ?_
      refine jd_cV 76 [.int 1, .int (nI (zV (N n))), .ref a] [] 0 0 (d' := d - 1) rfl rfl rfl x.1 rfl rfl (by omega) (by omega) (by omega) (cl_add1 x (by omega)) ?_
      rintro rv h1 ⟨rfl, x1, r1, k1⟩
      refine ia_go 2 rfl ?_
      refine jd_rv0 rfl rfl rfl ⟨rfl, x1, ?_, fun i hi => k1 _ (by omega) (by omega)⟩
      exact crw_cons (p := .ref a) r1 (fun _ => ⟨a, rfl, cd_ks hcd x1.2.2.1 _ _ ta⟩) crw_nil
    by_cases c3 : 3 ≤ zL (N n)
    rotate_left
    · have e1 : zL (N n) = 1 := by omega
      rw [show zK (N n) = 0 from k1' (by omega), show zM (N n) = 0 from k2' (by omega)] at es
      rw [ec, if_neg (by omega), if_neg (by omega), if_neg (by omega), if_neg (by omega), if_neg (by omega)]
      rw [e1] at es ⊢
      refine ia_go 1 rfl ?_
      skip
      refine ia_go 2 rfl ?_
      refine ia_getf rfl ((x.old s2 s1).trans es) rfl ?_
      refine ia_go 3 rfl ?_
      refine jd_cV 76 [.null, .int (nI (17 - (k + 1)) + 1)] [] 0 0 (d' := d - 1) rfl rfl rfl x.1 rfl rfl (by omega) (by omega) (by omega) (cl_lay0) ?_
      rintro rv h1 ⟨rfl, hh⟩
      subst hh
      refine ia_go 2 rfl ?_
      refine ia_getf rfl ((x.old s2 s1).trans es) rfl ?_
      refine ia_go 3 rfl ?_
      refine jd_cV 76 [.null, .int (nI (17 - (k + 1)) + 1)] [] 0 0 (d' := d - 1) rfl rfl rfl x.1 rfl rfl (by omega) (by omega) (by omega) (cl_lay0) ?_
      rintro rv h1 ⟨rfl, hh⟩
      subst hh
      exact jd_rv0 rfl rfl rfl ⟨rfl, x, crw_nil, fun _ _ => rfl⟩
    obtain ⟨hK, -⟩ := k1 c3
    rw [show rn na (zK (N n)) = .ref (na (zK (N n))) from if_neg (by omega)] at es
    by_cases c34 : zL (N n) = 3 ∨ zL (N n) = 4
    · obtain ⟨hMm, -⟩ := k2 c34
      rw [show rn na (zM (N n)) = .ref (na (zM (N n))) from if_neg (by omega)] at es
      by_cases c4 : zL (N n) = 4
      · obtain ⟨a, rfl, ta⟩ := hp (Or.inr (Or.inl c4))
        rw [ec, if_neg (by omega), if_neg (by omega), if_pos c4] at hl ⊢
        have al := cl_alt (G := G) (d := d - 1) (by omega) (by omega) es s1 s2 ta h142 hcd (fun s h xc hc => kid2 _ s h hK xc hc) (fun s h xc hc => kid2 _ s h hMm xc hc) rfl x hl
        rw [c4]
        refine ia_go 1 rfl ?_
        skip
        refine ia_go 3 rfl ?_
        refine jd_cV 76 [.ref (sa n), .int (nI (17 - (k + 1)))] [] 0 0 (d' := d - 1) rfl rfl rfl x.1 rfl rfl (by omega) (by omega) (by omega) (al) ?_
        rintro rv h1 ⟨rfl, x1⟩
        refine ia_go 1 rfl ?_
        exact jd_rv0 rfl rfl rfl ⟨rfl, x1⟩
      · have c3' : zL (N n) = 3 := by omega
        rw [ec, if_neg (by omega), if_pos c3'] at hl ⊢
        rw [List.length_append] at hl
        rw [c3'] at es ⊢
        refine ia_go 1 rfl ?_
        skip
        refine ia_go 2 rfl ?_
        refine ia_getf rfl ((x.old s2 s1).trans es) rfl ?_
        refine ia_go 3 rfl ?_
        rw [dep]
        refine jd_cV 76 [.ref (na (zK (N n))), .int (nI (17 - k))] [] 0 0 (d' := d - 1) rfl rfl rfl x.1 rfl rfl (by omega) (by omega) (by omega) (kid _ s h hK x (by omega)) ?_
        rintro rv h1 ⟨rfl, x1, w1, m1⟩
        refine ia_go 2 rfl ?_
        refine ia_getf rfl ((x1.old s2 s1).trans es) rfl ?_
        refine ia_go 3 rfl ?_
        rw [dep]
        refine jd_cV 76 [.ref (na (zM (N n))), .int (nI (17 - k))] [] 0 0 (d' := d - 1) rfl rfl rfl x1.1 rfl rfl (by omega) (by omega) (by omega) (kid _ _ h1 hMm x1 (by omega)) ?_
        rintro rv h2 ⟨rfl, x2, w2, m2⟩
        refine jd_rv0 rfl rfl rfl ⟨rfl, ?_, crw_app (w1.keep (x1.ks x2 hcd) (fun i hi => m2 _ (by omega))) w2, fun i hi => (m2 i (by omega)).trans (m1 i hi)⟩
        rw [List.length_append, ← Nat.add_assoc]; exact x2
    · rw [show zM (N n) = 0 from k2' c34] at es
      by_cases c5 : zL (N n) = 5
      · obtain ⟨a, rfl, ta⟩ := hp (Or.inr (Or.inr c5))
        rw [ec, if_neg (by omega), if_neg (by omega), if_neg (by omega), if_pos c5] at hl ⊢
        have al := cl_loop (G := G) (d := d - 1) (by omega) (by omega) es s1 s2 ta h142 hcd (fun s h xc hc => kid2 _ s h hK xc hc) rfl x hl
        rw [c5]
        refine ia_go 1 rfl ?_
        skip
        refine ia_go 3 rfl ?_
        refine jd_cV 76 [.ref (sa n), .int (nI (17 - (k + 1)))] [] 0 0 (d' := d - 1) rfl rfl rfl x.1 rfl rfl (by omega) (by omega) (by omega) (al) ?_
        rintro rv h1 ⟨rfl, x1⟩
        refine ia_go 1 rfl ?_
        exact jd_rv0 rfl rfl rfl ⟨rfl, x1⟩
      · have c6 : 5 < zL (N n) := by omega
        rw [ec, if_neg (by omega), if_neg (by omega), if_neg (by omega), if_neg c5, if_pos c6] at hl ⊢
        have body : ia_Sx pg G kk_C_layOutNode d 0 0 91 [.ref 76, .ref (na n), .int (nI (17 - (k + 1))), .ref (sa n)] [] h (fun rv h' => rv = none ∧ ly h0 h h' u v (fun n => zG (N n)) s (cdN N k (zK (N n)) s)) := by
          refine ia_go 2 rfl ?_
          refine ia_getf rfl ((x.old s2 s1).trans es) rfl ?_
          refine ia_go 3 rfl ?_
          rw [dep]
          refine jd_cV 76 [.ref (na (zK (N n))), .int (nI (17 - k))] [] 0 0 (d' := d - 1) rfl rfl rfl x.1 rfl rfl (by omega) (by omega) (by omega) (kid _ s h hK x (by omega)) ?_
          rintro rv h1 ⟨rfl, x1⟩
          refine ia_go 2 rfl ?_
          refine ia_getf rfl ((x1.1.old s2 s1).trans es) rfl ?_
          refine ia_go 3 rfl ?_
          refine jd_cV 76 [.null, .int (nI (17 - (k + 1)) + 1)] [] 0 0 (d' := d - 1) rfl rfl rfl x1.1.1 rfl rfl (by omega) (by omega) (by omega) (cl_lay0) ?_
          rintro rv h2 ⟨rfl, hh⟩
          subst hh
          exact jd_rv0 rfl rfl rfl ⟨rfl, x1⟩
        rcases (show zL (N n) = 6 ∨ zL (N n) = 7 ∨ zL (N n) = 8 by omega) with q | q | q
        · rw [q]
          refine ia_go 1 rfl ?_
          skip
          exact body
        · rw [q]
          refine ia_go 1 rfl ?_
          skip
          exact body
        · rw [q]
          refine ia_go 1 rfl ?_
          skip
          exact body
end CC
