/-! THE CLASS, 6: parents; prune; what the laws ask for. -/
theorem CN.inj {N : Nat → nN} {h : ia_H} {u v : Nat} {na sa : Nat → Nat} (y : CN N h u v na sa) {n m : Nat} (n1 : 1 ≤ n) (n2 : n ≤ 16) (n3 : zE (N n) = true) (m1 : 1 ≤ m) (m2 : m ≤ 16) (m3 : zE (N m) = true) (e : na n = na m) : n = m := by
  obtain ⟨a0, a1, st, e1, -⟩ := y.1 n n1 n2 n3
  obtain ⟨b0, b1, st', e2, -⟩ := y.1 m m1 m2 m3
  rw [e, e2] at e1
  have z := congrArg (fun x : Option ia_E => match x with
    | some (.inr (_, fs)) => fs[4]?
    | _ => none) e1
  have z2 : some (Value.int (nI m)) = some (Value.int (nI n)) := z
  exact ((nI_eq (by omega) (by omega)).mp (Value.int.inj (Option.some.inj z2))).symm
/-- the parents' cells -/
def np (h : ia_H) (N : Nat → nN) (na : Nat → Nat) : Prop := ∀ n, 1 ≤ n → n ≤ 16 → zE (N n) = true → 64 ≤ na n ∧ ∃ r, h.1 (na n) = some (.inr (5, rn na (zP (N n)) :: r))
theorem CN.np {N : Nat → nN} {h : ia_H} {u v : Nat} {na sa : Nat → Nat} (y : CN N h u v na sa) : np h N na := fun n n1 n2 n3 => by
  obtain ⟨a0, a1, st, e1, -, -, b, -⟩ := y.1 n n1 n2 n3
  exact ⟨by omega, _, e1⟩
theorem rn_or (na : Nat → Nat) (k : Nat) : rn na k = .null ∨ ∃ r, rn na k = .ref r := by
  unfold rn
  split
  · exact Or.inl rfl
  · exact Or.inr ⟨_, rfl⟩
theorem cl_cmloop {G : ia_G} {h : ia_H} {d q : Nat} {N : Nat → nN} {na : Nat → Nat} {z : Nat} (hA : ∀ n, 1 ≤ n → n ≤ 16 → AN N n) (hp : np h N na) (hi : ∀ n m, 1 ≤ n → n ≤ 16 → zE (N n) = true → 1 ≤ m → m ≤ 16 → zE (N m) = true → na n = na m → n = m) (q1 : 1 ≤ q) (q2 : q ≤ 16) (q3 : zE (N q) = true) : ∀ (m p : Nat), (p = 0 ∨ (1 ≤ p ∧ p ≤ 16 ∧ zE (N p) = true)) → (p ≠ 0 → zR (N p) < m) → ia_Sx pg G kk_N_cameOf d 0 0 5 [.ref z, .ref (na q), rn na p] [] h (fun rv h' => h' = h ∧ ∃ b, rv = some (.int b) ∧ bn (io (pP N) p q) b) := by
  intro m
  induction m with
  | zero =>
    intro p hp0 hr
    have e : p = 0 := Classical.byContradiction fun z => absurd (hr z) (Nat.not_lt_zero _)
    subst e
    rw [show rn na 0 = .null from rfl]
    refine ia_go 2 rfl ?_
    refine ia_go 1 rfl ?_
    exact jd_rv1 rfl rfl rfl rfl ⟨rfl, 0, rfl, Or.inr ⟨rfl, io_0 rfl⟩⟩
  | succ m ih =>
    intro p hp0 hr
    rcases hp0 with e | ⟨p1, p2, p3⟩
    · subst e
      rw [show rn na 0 = .null from rfl]
      refine ia_go 2 rfl ?_
      refine ia_go 1 rfl ?_
      exact jd_rv1 rfl rfl rfl rfl ⟨rfl, 0, rfl, Or.inr ⟨rfl, io_0 rfl⟩⟩
    · rw [show rn na p = .ref (na p) from if_neg (by omega)]
      obtain ⟨pa, r, ep⟩ := hp p p1 p2 p3
      have qa := (hp q q1 q2 q3).1
      by_cases e : p = q
      ·
        refine ia_go 2 rfl ?_
        refine ia_go 2 rfl ?_
        refine ia_go1 rfl (show ia_pu 11 _ _ _ = some (if na p = na q then 14 else 16, _, _) from if_pos ⟨pa, qa⟩) ?_
        rw [if_pos (by rw [e])]
        refine ia_go 1 rfl ?_
        exact jd_rv1 rfl rfl rfl rfl ⟨rfl, 1, rfl, Or.inl ⟨rfl, (io_s p1).mpr (Or.inl e)⟩⟩
      · have hne : na p ≠ na q := fun w => e (hi p q p1 p2 p3 q1 q2 q3 w)
        have up := az_up hA p1 p2 p3
        refine ia_go 2 rfl ?_
        refine ia_go 2 rfl ?_
        refine ia_go1 rfl (show ia_pu 11 _ _ _ = some (if na p = na q then 14 else 16, _, _) from if_pos ⟨pa, qa⟩) ?_
        rw [if_neg hne]
        refine ia_go 1 rfl ?_
        refine ia_getf rfl ep rfl ?_
        have go2 : ia_Sx pg G kk_N_cameOf d 0 0 5 [.ref z, .ref (na q), rn na (zP (N p))] [] h (fun rv h' => h' = h ∧ ∃ b, rv = some (.int b) ∧ bn (io (pP N) p q) b) := by
          rw [← pP_n (N := N) p1]
          refine ia_Sx.mono (ih (pP N p) up (fun w => ?_)) (fun rv h' w => ?_)
          · rcases up with w' | ⟨u1, u2, u3⟩
            · exact absurd w' w
            · have := az_rk hA 1 p p1 p2 p3 u1
              have r3 : zR (N (pP N p)) + 1 = zR (N p) := this
              have := hr (by omega)
              omega
          · obtain ⟨rfl, b, rfl, hb⟩ := w
            exact ⟨rfl, b, rfl, hb.iff ⟨fun w => (io_s p1).mpr (Or.inr w), fun w => ((io_s p1).mp w).resolve_left e⟩⟩
        rcases rn_or na (zP (N p)) with hv | ⟨r', hv⟩
        · rw [hv] at go2 ⊢
          refine ia_go 1 rfl ?_
          dsimp only [ia_s1, ia_s2, ia_cl, ia_D, List.getElem?_cons_zero, List.getElem?_cons_succ, List.set_cons_zero, List.set_cons_succ]
          refine ia_go 1 rfl ?_
          exact go2
        · rw [hv] at go2 ⊢
          refine ia_go 1 rfl ?_
          dsimp only [ia_s1, ia_s2, ia_cl, ia_D, List.getElem?_cons_zero, List.getElem?_cons_succ, List.set_cons_zero, List.set_cons_succ]
          refine ia_go 1 rfl ?_
          exact go2
theorem cl_came {G : ia_G} {h : ia_H} {d n q : Nat} {N : Nat → nN} {na : Nat → Nat} (hA : ∀ n, 1 ≤ n → n ≤ 16 → AN N n) (hp : np h N na) (hi : ∀ n m, 1 ≤ n → n ≤ 16 → zE (N n) = true → 1 ≤ m → m ≤ 16 → zE (N m) = true → na n = na m → n = m) (q1 : 1 ≤ q) (q2 : q ≤ 16) (q3 : zE (N q) = true) (n1 : 1 ≤ n) (n2 : n ≤ 16) (n3 : zE (N n) = true) : ia_Cn pg G kk_N_cameOf d 0 0 [.ref (na n), .ref (na q)] h (fun rv h' => h' = h ∧ ∃ b, rv = some (.int b) ∧ bn (io (pP N) (pP N n) q) b) := by
  obtain ⟨pa, r, ep⟩ := hp n n1 n2 n3
  have go2 := cl_cmloop (G := G) (d := d) (z := na n) hA hp hi q1 q2 q3 (zR (N (pP N n)) + 1) (pP N n) (az_up hA n1 n2 n3) (fun _ => Nat.lt_succ_self _)
  rw [pP_n (N := N) n1] at go2 ⊢
  refine jd_met (ls := [.ref (na n), .ref (na q), .retAddr 0]) rfl rfl rfl ?_
  refine ia_go 1 rfl ?_
  refine ia_getf rfl ep rfl ?_
  rcases rn_or na (zP (N n)) with hv | ⟨r', hv⟩
  · rw [hv] at go2 ⊢
    refine ia_go 1 rfl ?_
    dsimp only [ia_s1, ia_s2, ia_cl, ia_D, List.getElem?_cons_zero, List.getElem?_cons_succ, List.set_cons_zero, List.set_cons_succ]
    exact go2
  · rw [hv] at go2 ⊢
    refine ia_go 1 rfl ?_
    dsimp only [ia_s1, ia_s2, ia_cl, ia_D, List.getElem?_cons_zero, List.getElem?_cons_succ, List.set_cons_zero, List.set_cons_succ]
    exact go2
theorem cl_prloop {G : ia_G} {h0 : ia_H} {d q : Nat} {x : Int32} {N : Nat → nN} {na : Nat → Nat} {f0 : Nat → Value} {fs : List Value} {Post : Option Value → ia_H → Prop} (hd : 1 ≤ d) (e0 : h0.1 64 = some (.inr (0, .ref 65 :: .ref 67 :: .ref 68 :: fs))) (hA : ∀ n, 1 ≤ n → n ≤ 16 → AN N n) (hp : np h0 N na) (hi : ∀ n m, 1 ≤ n → n ≤ 16 → zE (N n) = true → 1 ≤ m → m ≤ 16 → zE (N m) = true → na n = na m → n = m) (q1 : 1 ≤ q) (q2 : q ≤ 16) (q3 : zE (N q) = true) (hf0 : ∀ n, 1 ≤ n → n ≤ 16 → f0 n = if zE (N n) = true then .ref (na n) else .null) (h68 : ∃ f, h0.1 68 = some (.inl (.object "RefinementBench$Node", 17, f))) (kk : ∀ (h : ia_H) (f : Nat → Value), o1 h0 h 68 (.inl (.object "RefinementBench$Node", 17, f)) → (∀ j, 1 ≤ j → j ≤ 16 → (pwN N q j → f j = .null) ∧ (¬ pwN N q j → f j = f0 j)) → ia_Sx pg G kk_R_prune d 0 0 80 [.ref 64, .int x, .ref (na q), .int (nI (pnN N q 16)), .int (nI 17)] [] h Post) : ∀ (r i : Nat), i + 1 + r = 17 → ∀ (h : ia_H) (f : Nat → Value), o1 h0 h 68 (.inl (.object "RefinementBench$Node", 17, f)) → (∀ j, 1 ≤ j → j ≤ i → (pwN N q j → f j = .null) ∧ (¬ pwN N q j → f j = f0 j)) → (∀ j, i < j → j ≤ 16 → f j = f0 j) → ia_Sx pg G kk_R_prune d 0 0 32 [.ref 64, .int x, .ref (na q), .int (nI (pnN N q i)), .int (nI (i + 1))] [] h Post := by
  obtain ⟨fx, ex⟩ := h68
  intro r
  induction r with
  | zero =>
    intro i hi' h f ho h1 h2
    obtain rfl : i = 16 := by omega
    refine ia_go 3 rfl ?_
    rw [if_pos (by exact (by decide))]
    exact kk h f ho h1
  | succ r ih =>
    intro i hi' h f ho h1 h2
    have e64 := (ho.2.2 64 (by omega)).trans e0
    have np' : np h N na := fun n n1 n2 n3 => by
      obtain ⟨a, r, e⟩ := hp n n1 n2 n3
      exact ⟨a, r, (ho.2.2 _ (fun z => by rw [z, ex] at e; cases e)).trans e⟩
    have fi : f (i + 1) = f0 (i + 1) := h2 (i + 1) (by omega) (by omega)
    have stay : ¬ pwN N q (i + 1) → ∀ j, 1 ≤ j → j ≤ i + 1 → (pwN N q j → f j = .null) ∧ (¬ pwN N q j → f j = f0 j) := fun np j j1 j2 => by
      by_cases e : j = i + 1
      · rw [e]; exact ⟨fun z => absurd z np, fun _ => fi⟩
      · exact h1 j j1 (by omega)
    have cnt : ¬ pwN N q (i + 1) → pnN N q (i + 1) = pnN N q i := fun np => by show pnN N q i + ch _ 1 0 = _; rw [ch_neg np]; rfl
    by_cases hE : zE (N (i + 1)) = true
    · have fr : f (i + 1) = .ref (na (i + 1)) := by rw [fi, hf0 _ (by omega) (by omega), if_pos hE]
      obtain ⟨pa, rr, ep⟩ := np' (i + 1) (by omega) (by omega) hE
      refine ia_go 3 rfl ?_
      rw [if_neg (by exact (nI_nlt (a := 16) (by omega) (by omega)))]
      refine ia_go 1 rfl ?_
      refine ia_getf rfl e64 rfl ?_
      refine ia_go 1 rfl ?_
      refine ia_aald rfl ho.2.1 (vp_in_nI (by omega) (by omega)) (v := .ref (na (i + 1))) (by rw [nI_clamp (by omega), fr]) ?_
      refine ia_go 1 rfl ?_
      refine ia_go 1 rfl ?_
      refine ia_getf rfl e64 rfl ?_
      refine ia_go 1 rfl ?_
      refine ia_aald rfl ho.2.1 (vp_in_nI (by omega) (by omega)) (v := .ref (na (i + 1))) (by rw [nI_clamp (by omega), fr]) ?_
      refine ia_go 1 rfl ?_
      refine jd_cV (na (i + 1)) [.ref (na q)] [] 0 0 (d' := d - 1) rfl rfl rfl ep rfl rfl (by omega) (by omega) (by omega) (cl_came hA np' hi q1 q2 q3 (by omega) (by omega) hE) ?_
      rintro rv h' ⟨hh, b, rfl, hb⟩
      refine ia_go 1 rfl ?_
      subst hh
      obtain ⟨rfl, hb⟩ | ⟨rfl, hb⟩ := hb
      rotate_left
      · have npw : ¬ pwN N q (i + 1) := fun z => hb z.2
        rw [if_pos rfl]
        refine ia_go 1 rfl ?_
        dsimp only [ia_s1, ia_s2, ia_cl, ia_D, List.getElem?_cons_zero, List.getElem?_cons_succ, List.set_cons_zero, List.set_cons_succ]
        refine ia_go 1 rfl ?_
        rw [show nI (i + 1) + Int32.ofInt 1 = nI (i + 1 + 1) from nI_1 (i + 1), ← cnt npw]
        exact ih (i + 1) (by omega) _ f ho (stay npw) (fun j j1 j2 => h2 j (by omega) j2)
      · have pw : pwN N q (i + 1) := ⟨hE, hb⟩
        rw [if_neg (by decide)]
        refine ia_go 1 rfl ?_
        refine ia_getf rfl e64 rfl ?_
        refine ia_go 2 rfl ?_
        refine ia_aastN rfl ho.2.1 (by omega) (vp_in_nI (by omega) (by omega)) ?_
        rw [nI_clamp (by omega)]
        refine ia_go 1 rfl ?_
        dsimp only [ia_s1, ia_s2, ia_cl, ia_D, List.getElem?_cons_zero, List.getElem?_cons_succ, List.set_cons_zero, List.set_cons_succ]
        refine ia_go 1 rfl ?_
        dsimp only [ia_s1, ia_s2, ia_cl, ia_D, List.getElem?_cons_zero, List.getElem?_cons_succ, List.set_cons_zero, List.set_cons_succ]
        refine ia_go 1 rfl ?_
        rw [show nI (i + 1) + Int32.ofInt 1 = nI (i + 1 + 1) from nI_1 (i + 1), show nI (pnN N q i) + Int32.ofInt 1 = nI (pnN N q (i + 1)) by rw [show pnN N q (i + 1) = pnN N q i + 1 by show pnN N q i + ch _ 1 0 = _; rw [ch_pos pw]]; exact nI_1 _]
        refine ih (i + 1) (by omega) _ _ ho.nx (fun j j1 j2 => ?_) (fun j j1 j2 => ?_)
        · show (pwN N q j → (if j = i + 1 then Value.null else f j) = .null) ∧ (¬ pwN N q j → (if j = i + 1 then Value.null else f j) = f0 j)
          by_cases e : j = i + 1
          · rw [if_pos e, e]; exact ⟨fun _ => rfl, fun z => absurd pw z⟩
          · rw [if_neg e]; exact h1 j j1 (by omega)
        · show (if j = i + 1 then Value.null else f j) = f0 j
          rw [if_neg (by omega)]; exact h2 j (by omega) j2
    · have npw : ¬ pwN N q (i + 1) := fun z => hE z.1
      have fr : f (i + 1) = .null := by rw [fi, hf0 _ (by omega) (by omega), if_neg hE]
      refine ia_go 3 rfl ?_
      rw [if_neg (by exact (nI_nlt (a := 16) (by omega) (by omega)))]
      refine ia_go 1 rfl ?_
      refine ia_getf rfl e64 rfl ?_
      refine ia_go 1 rfl ?_
      refine ia_aald rfl ho.2.1 (vp_in_nI (by omega) (by omega)) (v := .null) (by rw [nI_clamp (by omega), fr]) ?_
      refine ia_go 1 rfl ?_
      refine ia_go 1 rfl ?_
      dsimp only [ia_s1, ia_s2, ia_cl, ia_D, List.getElem?_cons_zero, List.getElem?_cons_succ, List.set_cons_zero, List.set_cons_succ]
      refine ia_go 1 rfl ?_
      rw [show nI (i + 1) + Int32.ofInt 1 = nI (i + 1 + 1) from nI_1 (i + 1), ← cnt npw]
      exact ih (i + 1) (by omega) h f ho (stay npw) (fun j j1 j2 => h2 j (by omega) j2)
theorem cx_prune {G : ia_G} {h : ia_H} {d : Nat} {A : aS} {x : Int32} (hd : 2 ≤ d) (y : CX A h) (hA : AI A) : ia_Cn pg G kk_R_prune d 0 0 [.ref 64, .int x] h (cx_P h 0 (sp_prune A x)) := by
  have y' := y
  obtain ⟨u, c1, v, c2, na, sa, ⟨⟨y0, yb, ysl, ynd, ydr, yjg, ycd, yar, yk⟩, ⟨v1, v2, v3, v4⟩, yn⟩⟩ := y
  have h5 := hA.2.2.2.2
  have cf := cl_find (G := G) (d := d - 1) (x := x) y0 ynd
  by_cases hn : nod (aN A) x = 0
  · rw [show sp_prune A x = (A, -1) by unfold sp_prune; rw [if_pos hn]]
    rw [hn] at cf
    refine jd_met (ls := [.ref 64, .int x, .retAddr 0, .retAddr 0, .retAddr 0]) rfl rfl rfl ?_
    refine ia_go 2 rfl ?_
    refine jd_cV 64 [.int x] [] 0 0 (d' := d - 1) rfl rfl rfl y0 rfl rfl (by omega) (by omega) (by omega) (cf) ?_
    rintro rv h' ⟨rfl, hh⟩
    subst hh
    rw [show rn na 0 = .null from rfl]
    refine ia_go 1 rfl ?_
    dsimp only [ia_s1, ia_s2, ia_cl, ia_D, List.getElem?_cons_zero, List.getElem?_cons_succ, List.set_cons_zero, List.set_cons_succ]
    refine ia_go 2 rfl ?_
    refine ia_go 1 rfl ?_
    exact jd_rv1 rfl rfl rfl trivial (cx_same y')
  obtain ⟨⟨n1, n2⟩, -, n3⟩ := nod_in hn
  rw [show rn na (nod (aN A) x) = .ref (na (nod (aN A) x)) from if_neg hn] at cf
  have esp : sp_prune A x = if zL (aN A (nod (aN A) x)) = 0 then (A, -2) else ((aB A, aQ A, prN (aN A) (nod (aN A) x), A.2.2.2), nI (pnN (aN A) (nod (aN A) x) 16)) := by unfold sp_prune; rw [if_neg hn]
  rw [esp]
  generalize nod (aN A) x = n at n1 n2 n3 cf hn
  have yn' := yn.1 n n1 n2 n3
  obtain ⟨a0, a1, st, e, t0, t1, bb, ys0, ys1⟩ := id yn'
  by_cases l : zL (aN A n) = 0
  · obtain rfl := ys0 l
    rw [if_pos l]
    refine jd_met (ls := [.ref 64, .int x, .retAddr 0, .retAddr 0, .retAddr 0]) rfl rfl rfl ?_
    refine ia_go 2 rfl ?_
    refine jd_cV 64 [.int x] [] 0 0 (d' := d - 1) rfl rfl rfl y0 rfl rfl (by omega) (by omega) (by omega) (cf) ?_
    rintro rv h' ⟨rfl, hh⟩
    subst hh
    refine ia_go 1 rfl ?_
    dsimp only [ia_s1, ia_s2, ia_cl, ia_D, List.getElem?_cons_zero, List.getElem?_cons_succ, List.set_cons_zero, List.set_cons_succ]
    refine ia_go 2 rfl ?_
    refine ia_go 1 rfl ?_
    refine ia_getf rfl e rfl ?_
    refine ia_go 1 rfl ?_
    refine ia_go 1 rfl ?_
    exact jd_rv1 rfl rfl rfl trivial (cx_same y')
  obtain ⟨rfl, ys⟩ := ys1 l
  rw [if_neg l]
  have ynd' := ynd
  obtain ⟨f68, e68, g68⟩ := ynd'
  have lb := yb.lt
  have ld := ydr.2.lt
  refine jd_met (ls := [.ref 64, .int x, .retAddr 0, .retAddr 0, .retAddr 0]) rfl rfl rfl ?_
  refine ia_go 2 rfl ?_
  refine jd_cV 64 [.int x] [] 0 0 (d' := d - 1) rfl rfl rfl y0 rfl rfl (by omega) (by omega) (by omega) (cf) ?_
  rintro rv h' ⟨rfl, hh⟩
  subst hh
  refine ia_go 1 rfl ?_
  dsimp only [ia_s1, ia_s2, ia_cl, ia_D, List.getElem?_cons_zero, List.getElem?_cons_succ, List.set_cons_zero, List.set_cons_succ]
  refine ia_go 2 rfl ?_
  refine ia_go 1 rfl ?_
  refine ia_getf rfl e rfl ?_
  refine ia_go 1 rfl ?_
  refine ia_go 2 rfl ?_
  refine ia_putf rfl e (by omega) rfl rfl rfl rfl ?_
  refine ia_go 2 rfl ?_
  dsimp only [ia_s1, ia_s2, ia_cl, ia_D, List.getElem?_cons_zero, List.getElem?_cons_succ, List.set_cons_zero, List.set_cons_succ]
  refine ia_go 2 rfl ?_
  dsimp only [ia_s1, ia_s2, ia_cl, ia_D, List.getElem?_cons_zero, List.getElem?_cons_succ, List.set_cons_zero, List.set_cons_succ]
  have hz : ∀ q, q ≠ na n → ia_up h'.1 (na n) (.inr (5, [rn na (zP (aN A n)), .int (zF (aN A n)), .ref a0, .ref a1, .int (nI n), .null])) q = h'.1 q := fun q hq => ia_up_ne hq
  have hz' : ∀ q, q < 142 → ia_up h'.1 (na n) (.inr (5, [rn na (zP (aN A n)), .int (zF (aN A n)), .ref a0, .ref a1, .int (nI n), .null])) q = h'.1 q := fun q hq => hz q (by omega)
  refine cl_prloop (h0 := (ia_up h'.1 (na n) (.inr (5, [rn na (zP (aN A n)), .int (zF (aN A n)), .ref a0, .ref a1, .int (nI n), .null])), h'.2)) (N := aN A) (f0 := f68) (by omega) ((hz' 64 (by omega)).trans y0) h5 (fun m m1 m2 m3 => ?_) (fun n m n1 n2 n3 m1 m2 m3 e => yn.inj n1 n2 n3 m1 m2 m3 e) n1 n2 n3 g68 ⟨_, (hz' 68 (by omega)).trans e68⟩ (fun h2 f ho hf => ?_) 16 0 (by omega) _ f68 ⟨rfl, (hz' 68 (by omega)).trans e68, fun _ _ => rfl⟩ (fun j j1 j2 => absurd j2 (by omega)) (fun j _ _ => rfl)
  · by_cases em : m = n
    · subst em
      exact ⟨by omega, _, ia_up_same⟩
    · obtain ⟨b0, b1, st', e', -, -, b', -⟩ := yn.1 m m1 m2 m3
      exact ⟨by omega, _, (hz _ (fun z => em (yn.inj m1 m2 m3 n1 n2 n3 z))).trans e'⟩
  · have hs : h2.2 = h'.2 := ho.1
    have z : ∀ q, q ≠ 68 → q ≠ na n → h2.1 q = h'.1 q := fun q q1 q2 => (ho.2.2 q q1).trans (hz q q2)
    have zc : ∀ q, q ≠ 68 → q < 142 → h2.1 q = h'.1 q := fun q q1 q2 => z q q1 (by omega)
    have en : h2.1 (na n) = some (.inr (5, [rn na (zP (aN A n)), .int (zF (aN A n)), .ref a0, .ref a1, .int (nI n), .null])) := (ho.2.2 _ (by omega)).trans ia_up_same
    have hfr : sx_fr h' h2 (fun q => q = 68 ∨ q = na n) := ⟨by omega, fun q _ hS => z q (fun w => hS (Or.inl w)) (fun w => hS (Or.inr w))⟩
    have k : ks h' h2 u v u v := by
      refine ks_fr hfr (fun q hq => ?_) (Or.inl rfl) (Or.inl rfl)
      right; right
      rcases hq with rfl | rfl
      · exact ⟨fun r w => (by rw [e68] at w; cases w), fun n f w => (by rw [e68] at w; cases w)⟩
      · exact ⟨fun r w => (by rw [e] at w; cases w), fun n f w => (by rw [e] at w; cases w)⟩
    have un : u ≠ na n := fun w => by
      obtain ⟨nn, ff, q⟩ := lb.2.2.1
      rw [w, e] at q; cases q
    have vn : v ≠ na n := fun w => by
      obtain ⟨nn, ff, q⟩ := ld.2.2.1
      rw [w, e] at q; cases q
    have nq : ¬ pwN (aN A) n n := by
      rintro ⟨-, k, k1, k2⟩
      rcases az_up h5 n1 n2 n3 with u | ⟨u1, u2, u3⟩
      · rw [u, an0 rfl] at k1; omega
      · have r1 := az_rk h5 k _ u1 u2 u3 k1
        have r2 := az_rk h5 1 _ n1 n2 n3 u1
        rw [k2] at r1
        have r3 : zR (aN A (pP (aN A) n)) + 1 = zR (aN A n) := r2
        omega
    refine ia_go 1 rfl ?_
    refine jd_rv1 rfl rfl rfl trivial ?_
    refine ⟨rfl, ⟨u, c1, v, c2, na, sa, ⟨(zc 64 (by omega) (by omega)).trans y0, yb.keep (zc 65 (by omega) (by omega)) (z u (by omega) un) (by omega), ysl.keep k (zc 67 (by omega) (by omega)) (fun i hi => zc _ (by omega) (by omega)), ⟨f, ho.2.1, fun m m1 m2 => ?_⟩, ydr.keep (zc 69 (by omega) (by omega)) (zc 70 (by omega) (by omega)) (z v (by omega) vn) (by omega), yjg.keep (fun q _ _ => zc q (by omega) (by omega)), ycd.keep (fun q _ _ => zc q (by omega) (by omega)), yar.keep (zc 111 (by omega) (by omega)) (zc 112 (by omega) (by omega)), yk.keep k⟩, ⟨v1, v2, v3, by omega⟩, fun m m1 m2 m3 => ?_, fun m m' m1 m2 m1' m2' m3 m3' l1 l2 es => ?_⟩, hfr.mono (fun q hq => by unfold cx_S rm_S; omega), by omega⟩
    · show f m = if zE (prN (aN A) n m) = true then Value.ref (na m) else .null
      by_cases em : m = n
      · subst em
        rw [(hf m m1 m2).2 nq, g68 m m1 m2, prN_at]
      · by_cases pm : pwN (aN A) n m
        · rw [(hf m m1 m2).1 pm, prN_go em pm]; rfl
        · rw [(hf m m1 m2).2 pm, g68 m m1 m2, prN_stay em pm]
    · have m3' : zE (prN (aN A) n m) = true := m3
      show cx_n h2 u v na sa (prN (aN A) n m) m
      by_cases em : m = n
      · subst em
        rw [prN_at]
        exact ⟨a0, a1, .null, en, k _ _ t0, k _ _ t1, ⟨bb.1, by omega⟩, fun _ => rfl, fun w => absurd rfl w⟩
      · by_cases pm : pwN (aN A) n m
        · rw [prN_go em pm] at m3'; cases m3'
        · rw [prN_stay em pm] at m3' ⊢
          have ym := yn.1 m m1 m2 m3'
          refine ym.keep k (z _ ?_ (fun w => em (yn.inj m1 m2 m3' n1 n2 n3 w))) (fun lm => ?_) (by omega)
          · obtain ⟨b0, b1, st', e', -, -, b', -⟩ := ym
            omega
          · obtain ⟨b0, b1, st', e', -, -, b', -, ysm⟩ := ym
            obtain ⟨-, k1, k2, vv, pt, es, -, -, -, -, s1, s2⟩ := ysm lm
            exact z _ (by omega) (fun w => by rw [w, e] at es; cases es)
    · have ex : ∀ k, zE (prN (aN A) n k) = true → zL (prN (aN A) n k) ≠ 0 → zE (aN A k) = true ∧ zL (aN A k) ≠ 0 := by
        intro k kE kL
        by_cases ek : k = n
        · subst ek; rw [prN_at] at kL; exact absurd rfl kL
        · by_cases pk : pwN (aN A) n k
          · rw [prN_go ek pk] at kE; cases kE
          · rw [prN_stay ek pk] at kE kL; exact ⟨kE, kL⟩
      exact yn.2 m m' m1 m2 m1' m2' (ex m m3 l1).1 (ex m' m3' l2).1 (ex m m3 l1).2 (ex m' m3' l2).2 es
/-! allows -/
theorem cl_illoop {G : ia_G} {h : ia_H} {d u v z : Nat} {N : Nat → nN} {na sa : Nat → Nat} (hA : ∀ n, 1 ≤ n → n ≤ 16 → AN N n) (y : CN N h u v na sa) : ∀ (m p : Nat), (p = 0 ∨ (1 ≤ p ∧ p ≤ 16 ∧ zE (N p) = true)) → (p ≠ 0 → zR (N p) < m) → ia_Sx pg G kk_N_isInLoop d 0 0 5 [.ref z, rn na p] [] h (fun rv h' => h' = h ∧ ∃ b, rv = some (.int b) ∧ bn (ilN N p) b) := by
  have il0 : ¬ ilN N 0 := by
    rintro ⟨k, k1, -⟩
    rw [an0 rfl] at k1
    omega
  have ils : ∀ p, 1 ≤ p → (ilN N p ↔ zL (N p) = 5 ∨ ilN N (pP N p)) := by
    intro p p1
    constructor
    · rintro ⟨k, k1, k2⟩
      cases k with
      | zero => exact Or.inl k2
      | succ k => exact Or.inr ⟨k, k1, k2⟩
    · rintro (e | ⟨k, k1, k2⟩)
      · exact ⟨0, p1, e⟩
      · exact ⟨k + 1, k1, k2⟩
  intro m
  induction m with
  | zero =>
    intro p hp0 hr
    have e : p = 0 := Classical.byContradiction fun z => absurd (hr z) (Nat.not_lt_zero _)
    subst e
    rw [show rn na 0 = .null from rfl]
    refine ia_go 2 rfl ?_
    refine ia_go 1 rfl ?_
    exact jd_rv1 rfl rfl rfl rfl ⟨rfl, 0, rfl, Or.inr ⟨rfl, il0⟩⟩
  | succ m ih =>
    intro p hp0 hr
    rcases hp0 with e | ⟨p1, p2, p3⟩
    · subst e
      rw [show rn na 0 = .null from rfl]
      refine ia_go 2 rfl ?_
      refine ia_go 1 rfl ?_
      exact jd_rv1 rfl rfl rfl rfl ⟨rfl, 0, rfl, Or.inr ⟨rfl, il0⟩⟩
    · rw [show rn na p = .ref (na p) from if_neg (by omega)]
      obtain ⟨a0, a1, st, e, -, -, bb, ys0, ys1⟩ := y.1 p p1 p2 p3
      obtain ⟨-, l8, -⟩ := hA p p1 p2 p3
      have up := az_up hA p1 p2 p3
      have go : zL (N p) ≠ 5 → ia_Sx pg G kk_N_isInLoop d 0 0 29 [.ref z, .ref (na p)] [] h (fun rv h' => h' = h ∧ ∃ b, rv = some (.int b) ∧ bn (ilN N p) b) := by
        intro n5
        have go2 : ia_Sx pg G kk_N_isInLoop d 0 0 5 [.ref z, rn na (zP (N p))] [] h (fun rv h' => h' = h ∧ ∃ b, rv = some (.int b) ∧ bn (ilN N p) b) := by
          rw [← pP_n (N := N) p1]
          refine ia_Sx.mono (ih (pP N p) up (fun w => ?_)) (fun rv h' w => ?_)
          · rcases up with w' | ⟨u1, u2, u3⟩
            · exact absurd w' w
            · have := az_rk hA 1 p p1 p2 p3 u1
              have r3 : zR (N (pP N p)) + 1 = zR (N p) := this
              have := hr (by omega)
              omega
          · obtain ⟨rfl, b, rfl, hb⟩ := w
            exact ⟨rfl, b, rfl, hb.iff ⟨fun w => (ils p p1).mpr (Or.inr w), fun w => ((ils p p1).mp w).resolve_left n5⟩⟩
        refine ia_go 1 rfl ?_
        refine ia_getf rfl e rfl ?_
        rcases rn_or na (zP (N p)) with hv | ⟨r', hv⟩
        · rw [hv] at go2 ⊢
          refine ia_go 1 rfl ?_
          dsimp only [ia_s1, ia_s2, ia_cl, ia_D, List.getElem?_cons_zero, List.getElem?_cons_succ, List.set_cons_zero, List.set_cons_succ]
          refine ia_go 1 rfl ?_
          exact go2
        · rw [hv] at go2 ⊢
          refine ia_go 1 rfl ?_
          dsimp only [ia_s1, ia_s2, ia_cl, ia_D, List.getElem?_cons_zero, List.getElem?_cons_succ, List.set_cons_zero, List.set_cons_succ]
          refine ia_go 1 rfl ?_
          exact go2
      by_cases l : zL (N p) = 0
      · obtain rfl := ys0 l
        refine ia_go 2 rfl ?_
        refine ia_go 1 rfl ?_
        refine ia_getf rfl e rfl ?_
        refine ia_go 1 rfl ?_
        exact go (by omega)
      · obtain ⟨rfl, k1, k2, vv, pt, es, -⟩ := ys1 l
        by_cases l5 : zL (N p) = 5
        ·
          refine ia_go 2 rfl ?_
          refine ia_go 1 rfl ?_
          refine ia_getf rfl e rfl ?_
          refine ia_go 1 rfl ?_
          refine ia_go 1 rfl ?_
          refine ia_getf rfl e rfl ?_
          refine ia_getf rfl es rfl ?_
          refine ia_go 2 rfl ?_
          rw [if_neg (by exact (fun w => w (by rw [l5]; rfl)))]
          refine ia_go 1 rfl ?_
          exact jd_rv1 rfl rfl rfl rfl ⟨rfl, 1, rfl, Or.inl ⟨rfl, (ils p p1).mpr (Or.inl l5)⟩⟩
        ·
          refine ia_go 2 rfl ?_
          refine ia_go 1 rfl ?_
          refine ia_getf rfl e rfl ?_
          refine ia_go 1 rfl ?_
          refine ia_go 1 rfl ?_
          refine ia_getf rfl e rfl ?_
          refine ia_getf rfl es rfl ?_
          refine ia_go 2 rfl ?_
          rw [if_pos (by exact (fun w => l5 ((nI_eq (b := 5) (by omega) (by omega)).mp w)))]
          exact go l5
theorem cl_inloop {G : ia_G} {h : ia_H} {d u v n : Nat} {N : Nat → nN} {na sa : Nat → Nat} (hA : ∀ n, 1 ≤ n → n ≤ 16 → AN N n) (y : CN N h u v na sa) (n1 : 1 ≤ n) (n2 : n ≤ 16) (n3 : zE (N n) = true) : ia_Cn pg G kk_N_isInLoop d 0 0 [.ref (na n)] h (fun rv h' => h' = h ∧ ∃ b, rv = some (.int b) ∧ bn (ilN N (pP N n)) b) := by
  obtain ⟨a0, a1, st, e, -⟩ := y.1 n n1 n2 n3
  have go2 := cl_illoop (G := G) (d := d) (z := na n) hA y (zR (N (pP N n)) + 1) (pP N n) (az_up hA n1 n2 n3) (fun _ => Nat.lt_succ_self _)
  rw [pP_n (N := N) n1] at go2 ⊢
  refine jd_met (ls := [.ref (na n), .retAddr 0]) rfl rfl rfl ?_
  refine ia_go 1 rfl ?_
  refine ia_getf rfl e rfl ?_
  rcases rn_or na (zP (N n)) with hv | ⟨r', hv⟩
  · rw [hv] at go2 ⊢
    refine ia_go 1 rfl ?_
    dsimp only [ia_s1, ia_s2, ia_cl, ia_D, List.getElem?_cons_zero, List.getElem?_cons_succ, List.set_cons_zero, List.set_cons_succ]
    exact go2
  · rw [hv] at go2 ⊢
    refine ia_go 1 rfl ?_
    dsimp only [ia_s1, ia_s2, ia_cl, ia_D, List.getElem?_cons_zero, List.getElem?_cons_succ, List.set_cons_zero, List.set_cons_succ]
    exact go2
theorem cl_allows {G : ia_G} {h : ia_H} {d u v n w rr : Nat} {c x : Int32} {Q : Nat → List Int32} {N : Nat → nN} {na sa : Nat → Nat} (hd : 5 ≤ d) (hA : ∀ n, 1 ≤ n → n ≤ 16 → AN N n) (y0 : cx_0 h c rr) (ysl : cx_sl h u v Q) (y : CN N h u v na sa) (n1 : 1 ≤ n) (n2 : n ≤ 16) (n3 : zE (N n) = true) (w1 : 1 ≤ w) (w8 : w ≤ 8) : ia_Cn pg G kk_R_allows d 0 0 [.ref 64, .ref (na n), .int (nI w), .int x] h (fun rv h' => h' = h ∧ ∃ b, rv = some (.int b) ∧ bn (sdN N (Q 0) (Q 1) (Q 3) n w x) b) := by
  obtain ⟨a0, a1, st, e, -⟩ := id (y.1 n n1 n2 n3)
  obtain ⟨f67, e67, g67⟩ := ysl.1
  have yes : ∀ {P : Prop}, P → bn P 1 := fun p => Or.inl ⟨rfl, p⟩
  have no : ∀ {P : Prop}, ¬ P → bn P 0 := fun p => Or.inr ⟨rfl, p⟩
  have triv : w ≠ 2 → w ≠ 4 → w ≠ 5 → w ≠ 8 → sdN N (Q 0) (Q 1) (Q 3) n w x := fun q2 q4 q5 q8 => ⟨fun z => absurd z q2, fun z => absurd z q4, fun z => absurd z q5, fun z => absurd z q8⟩
  rcases (show w = 1 ∨ w = 2 ∨ w = 3 ∨ w = 4 ∨ w = 5 ∨ w = 6 ∨ w = 7 ∨ w = 8 by omega) with rfl | rfl | rfl | rfl | rfl | rfl | rfl | rfl
  ·
    refine jd_met (ls := [.ref 64, .ref (na n), .int (nI 1), .int x]) rfl rfl rfl ?_
    refine ia_go 2 rfl ?_
    skip
    refine ia_go 1 rfl ?_
    exact jd_rv1 rfl rfl rfl rfl ⟨rfl, 1, rfl, yes (triv (by decide) (by decide) (by decide) (by decide))⟩
  · obtain ⟨a3, s3, t3⟩ := ysl.2 3 (by omega)
    have key : sdN N (Q 0) (Q 1) (Q 3) n 2 x ↔ (0 ≤ x ∧ x ≤ 2 ∧ zF (N n) >>> (x &&& 31) &&& 1 = 1) ∧ ¬ 120 ∈ Q 3 := ⟨fun z => z.1 rfl, fun z => ⟨fun _ => z, fun q => absurd q (by decide), fun q => absurd q (by decide), fun q => absurd q (by decide)⟩⟩
    refine jd_met (ls := [.ref 64, .ref (na n), .int (nI 2), .int x]) rfl rfl rfl ?_
    refine ia_go 2 rfl ?_
    skip
    refine ia_go 2 rfl ?_
    refine jd_cV (na n) [.int x] [] 0 0 (d' := d - 1) rfl rfl rfl e rfl rfl (by omega) (by omega) (by omega) (cl_may e rfl) ?_
    rintro rv h' ⟨hh, b, rfl, hb⟩
    refine ia_go 1 rfl ?_
    subst hh
    obtain ⟨rfl, hb⟩ | ⟨rfl, hb⟩ := hb
    rotate_left
    · rw [if_pos rfl]
      refine ia_go 1 rfl ?_
      exact jd_rv1 rfl rfl rfl rfl ⟨rfl, 0, rfl, no (fun z => hb (key.mp z).1)⟩
    · rw [if_neg (by decide)]
      refine ia_go 1 rfl ?_
      refine ia_getf rfl y0 rfl ?_
      refine ia_go 1 rfl ?_
      refine ia_aald rfl e67 (by unfold vp_in; decide) (v := .ref 116) (g67 3 (by omega)) ?_
      refine jd_cV 116 [] [] 0 0 (d' := d - 1) rfl rfl rfl s3 rfl rfl (by omega) (by omega) (by omega) (cl_hasX (by omega) s3 t3.s) ?_
      rintro rv h'' ⟨hh, b, rfl, hb'⟩
      refine ia_go 1 rfl ?_
      subst hh
      obtain ⟨rfl, hb'⟩ | ⟨rfl, hb'⟩ := hb'
      rotate_left
      · rw [if_neg (fun z => z rfl)]
        refine ia_go 2 rfl ?_
        exact jd_rv1 rfl rfl rfl rfl ⟨rfl, 1, rfl, yes (key.mpr ⟨hb, hb'⟩)⟩
      · rw [if_pos (by decide)]
        refine ia_go 1 rfl ?_
        exact jd_rv1 rfl rfl rfl rfl ⟨rfl, 0, rfl, no (fun z => (key.mp z).2 hb')⟩
  ·
    refine jd_met (ls := [.ref 64, .ref (na n), .int (nI 3), .int x]) rfl rfl rfl ?_
    refine ia_go 2 rfl ?_
    skip
    refine ia_go 1 rfl ?_
    exact jd_rv1 rfl rfl rfl rfl ⟨rfl, 1, rfl, yes (triv (by decide) (by decide) (by decide) (by decide))⟩
  · obtain ⟨a3, s3, t3⟩ := ysl.2 0 (by omega)
    have key : sdN N (Q 0) (Q 1) (Q 3) n 4 x ↔ ¬ 120 ∈ Q 0 := ⟨fun z => z.2.1 rfl, fun z => ⟨fun q => absurd q (by decide), fun _ => z, fun q => absurd q (by decide), fun q => absurd q (by decide)⟩⟩
    refine jd_met (ls := [.ref 64, .ref (na n), .int (nI 4), .int x]) rfl rfl rfl ?_
    refine ia_go 2 rfl ?_
    skip
    refine ia_go 1 rfl ?_
    refine ia_getf rfl y0 rfl ?_
    refine ia_go 1 rfl ?_
    refine ia_aald rfl e67 (by unfold vp_in; decide) (v := .ref 113) (g67 0 (by omega)) ?_
    refine jd_cV 113 [] [] 0 0 (d' := d - 1) rfl rfl rfl s3 rfl rfl (by omega) (by omega) (by omega) (cl_hasX (by omega) s3 t3.s) ?_
    rintro rv h'' ⟨hh, b, rfl, hb'⟩
    refine ia_go 1 rfl ?_
    subst hh
    obtain ⟨rfl, hb'⟩ | ⟨rfl, hb'⟩ := hb'
    rotate_left
    · rw [if_neg (fun z => z rfl)]
      refine ia_go 2 rfl ?_
      exact jd_rv1 rfl rfl rfl rfl ⟨rfl, 1, rfl, yes (key.mpr hb')⟩
    · rw [if_pos (by decide)]
      refine ia_go 1 rfl ?_
      exact jd_rv1 rfl rfl rfl rfl ⟨rfl, 0, rfl, no (fun z => key.mp z hb')⟩
  · obtain ⟨a3, s3, t3⟩ := ysl.2 1 (by omega)
    have key : sdN N (Q 0) (Q 1) (Q 3) n 5 x ↔ ¬ 120 ∈ Q 1 ∧ ¬ ilN N (pP N n) := ⟨fun z => z.2.2.1 rfl, fun z => ⟨fun q => absurd q (by decide), fun q => absurd q (by decide), fun _ => z, fun q => absurd q (by decide)⟩⟩
    refine jd_met (ls := [.ref 64, .ref (na n), .int (nI 5), .int x]) rfl rfl rfl ?_
    refine ia_go 2 rfl ?_
    skip
    refine ia_go 1 rfl ?_
    refine ia_getf rfl y0 rfl ?_
    refine ia_go 1 rfl ?_
    refine ia_aald rfl e67 (by unfold vp_in; decide) (v := .ref 114) (g67 1 (by omega)) ?_
    refine jd_cV 114 [] [] 0 0 (d' := d - 1) rfl rfl rfl s3 rfl rfl (by omega) (by omega) (by omega) (cl_hasX (by omega) s3 t3.s) ?_
    rintro rv h'' ⟨hh, b, rfl, hb'⟩
    refine ia_go 1 rfl ?_
    subst hh
    obtain ⟨rfl, hb'⟩ | ⟨rfl, hb'⟩ := hb'
    rotate_left
    · rw [if_neg (fun z => z rfl)]
      refine ia_go 1 rfl ?_
      refine jd_cV (na n) [] [] 0 0 (d' := d - 1) rfl rfl rfl e rfl rfl (by omega) (by omega) (by omega) (cl_inloop hA y n1 n2 n3) ?_
      rintro rv h' ⟨hh, b, rfl, hb⟩
      refine ia_go 1 rfl ?_
      subst hh
      obtain ⟨rfl, hb⟩ | ⟨rfl, hb⟩ := hb
      rotate_left
      · rw [if_neg (fun z => z rfl)]
        refine ia_go 2 rfl ?_
        exact jd_rv1 rfl rfl rfl rfl ⟨rfl, 1, rfl, yes (key.mpr ⟨hb', hb⟩)⟩
      · rw [if_pos (by decide)]
        refine ia_go 1 rfl ?_
        exact jd_rv1 rfl rfl rfl rfl ⟨rfl, 0, rfl, no (fun z => (key.mp z).2 hb)⟩
    · rw [if_pos (by decide)]
      refine ia_go 1 rfl ?_
      exact jd_rv1 rfl rfl rfl rfl ⟨rfl, 0, rfl, no (fun z => (key.mp z).1 hb')⟩
  ·
    refine jd_met (ls := [.ref 64, .ref (na n), .int (nI 6), .int x]) rfl rfl rfl ?_
    refine ia_go 2 rfl ?_
    skip
    refine ia_go 1 rfl ?_
    exact jd_rv1 rfl rfl rfl rfl ⟨rfl, 1, rfl, yes (triv (by decide) (by decide) (by decide) (by decide))⟩
  ·
    refine jd_met (ls := [.ref 64, .ref (na n), .int (nI 7), .int x]) rfl rfl rfl ?_
    refine ia_go 2 rfl ?_
    skip
    refine ia_go 1 rfl ?_
    exact jd_rv1 rfl rfl rfl rfl ⟨rfl, 1, rfl, yes (triv (by decide) (by decide) (by decide) (by decide))⟩
  · have key : sdN N (Q 0) (Q 1) (Q 3) n 8 x ↔ x &&& (zF (N n) ^^^ -1) = 0 := ⟨fun z => z.2.2.2 rfl, fun z => ⟨fun q => absurd q (by decide), fun q => absurd q (by decide), fun q => absurd q (by decide), fun _ => z⟩⟩
    by_cases hz : x &&& (zF (N n) ^^^ -1) = 0
    ·
      refine jd_met (ls := [.ref 64, .ref (na n), .int (nI 8), .int x]) rfl rfl rfl ?_
      refine ia_go 2 rfl ?_
      skip
      refine ia_go 2 rfl ?_
      refine ia_getf rfl e rfl ?_
      refine ia_go 4 rfl ?_
      rw [if_neg (by exact (fun z => z hz))]
      refine ia_go 2 rfl ?_
      exact jd_rv1 rfl rfl rfl rfl ⟨rfl, 1, rfl, yes (key.mpr hz)⟩
    ·
      refine jd_met (ls := [.ref 64, .ref (na n), .int (nI 8), .int x]) rfl rfl rfl ?_
      refine ia_go 2 rfl ?_
      skip
      refine ia_go 2 rfl ?_
      refine ia_getf rfl e rfl ?_
      refine ia_go 4 rfl ?_
      rw [if_pos (by exact hz)]
      refine ia_go 1 rfl ?_
      exact jd_rv1 rfl rfl rfl rfl ⟨rfl, 0, rfl, no (fun z => hz (key.mp z))⟩
