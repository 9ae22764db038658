/-! THE REFERENCE, 26: between; a node's code is laid out. -/
theorem rm_100 : ∀ n : Fin 17, ∀ s : Fin 80, nI (100 * n.val + s.val) / 100 = nI n.val ∧ nI (100 * n.val + s.val) - nI (100 * n.val + s.val) / 100 * 100 = nI s.val := by decide +kernel
section PB
variable {G : ia_G} {h0 h : ia_H} {d s s0 e n : Nat} {F F1 : Nat → Nat → Int32} {S : Nat → Int32} {LW K1 K2 V r : Nat → Nat}
theorem bt1 (hd : 1 ≤ d) (hp : pb h0 h F S F1 s e) (hs : s < 80) (he : e + 1 < 80) (hn : n ≤ 16) (hs0 : s0 < 80) : ia_Cn pg G kk_M_between d 0 0 [.ref 117, .int (-1), .int (nI (100 * n + s0))] h (fun rv h' => rv = none ∧ pb h0 h' F S (lt (lt (rm_u (em F1 s 3 0 0) 19 s0 (nI (s + 1))) e (-2) (nI s)) (e + 1) (F1 6 n) 0) (s + 1) (e + 1 + 1)) := by
  have hdv : nI (100 * n + s0) / 100 = nI n := (rm_100 ⟨n, by omega⟩ ⟨s0, hs0⟩).1
  have hmd : nI (100 * n + s0) - nI (100 * n + s0) / 100 * 100 = nI s0 := (rm_100 ⟨n, by omega⟩ ⟨s0, hs0⟩).2
  obtain ⟨S9, q9⟩ := hp.o
  refine jd_met (ls := [.ref 117, .int (-1), .int (nI (100 * n + s0)), .retAddr 0]) rfl rfl rfl ?_
  refine ia_go 3 rfl ?_
  rw [if_neg (fun z => z rfl)]
  refine ia_go 4 rfl ?_
  refine jd_cV 117 [.int 3, .int 0, .int 0] [] 0 0 (d' := d - 1) rfl rfl rfl q9 rfl rfl (by omega) (by omega) (by omega) (pb_emit hp hs) ?_
  rintro rv h2 ⟨rfl, hp⟩
  obtain ⟨S1, g1, g2, g3, g4, g5⟩ := id hp
  refine ia_go 1 rfl ?_
  dsimp only [ia_s1, ia_s2, ia_cl, ia_D, List.getElem?_cons_zero, List.getElem?_cons_succ, List.set_cons_zero, List.set_cons_succ]
  refine ia_go 1 rfl ?_
  refine ia_getf rfl g1.1.1 rfl ?_
  refine ia_go 4 rfl ?_
  refine ia_getf rfl g1.1.1 rfl ?_
  rw [hmd, g3]
  refine rm_st (K := 19) rfl g1 (by decide) rfl (show s0 < 80 from hs0) (by decide) (fun h3 hm => ?_)
  have hp := pb_set g1 g2 g3 g4 g5 (by omega) hm
  refine ia_go 3 rfl ?_
  refine jd_cV 117 [.int (-2), .int (nI s)] [] 0 0 (d' := d - 1) rfl rfl rfl hm.1.1 rfl rfl (by omega) (by omega) (by omega) (pb_later hp (by omega)) ?_
  rintro rv h4 ⟨rfl, hp⟩
  obtain ⟨S1, g1, g2, g3, g4, g5⟩ := id hp
  refine ia_go 2 rfl ?_
  refine ia_getf rfl g1.1.1 rfl ?_
  refine ia_go 3 rfl ?_
  rw [hdv]
  refine rm_ld (K := 6) rfl g1 (by decide) rfl (show n < 17 by omega) (by decide) ?_
  rw [show lt (rm_u (em F1 s 3 0 0) 19 s0 (nI (s + 1))) e (-2) (nI s) 6 n = F1 6 n from (lt_off (by omega)).trans ((rm_uk (by decide)).trans (em_off (by omega)))]
  refine ia_go 1 rfl ?_
  refine jd_cV 117 [.int (F1 6 n), .int 0] [] 0 0 (d' := d - 1) rfl rfl rfl g1.1.1 rfl rfl (by omega) (by omega) (by omega) (pb_later hp (by omega)) ?_
  rintro rv h5 ⟨rfl, hp⟩
  refine ia_go 1 rfl ?_
  exact jd_rv0 rfl rfl rfl ⟨rfl, hp⟩
theorem bt2 (hp : pb h0 h F S F1 s e) (hs0 : s0 < 80) : ia_Cn pg G kk_M_between d 0 0 [.ref 117, .int (-2), .int (nI s0)] h (fun rv h' => rv = none ∧ pb h0 h' F S (rm_u F1 19 s0 (nI s)) s e) := by
  obtain ⟨S1, g1, g2, g3, g4, g5⟩ := hp
  refine jd_met (ls := [.ref 117, .int (-2), .int (nI s0), .retAddr 0]) rfl rfl rfl ?_
  refine ia_go 3 rfl ?_
  rw [if_pos (by decide)]
  refine ia_go 3 rfl ?_
  rw [if_neg (fun z => z rfl)]
  refine ia_go 1 rfl ?_
  refine ia_getf rfl g1.1.1 rfl ?_
  refine ia_go 2 rfl ?_
  refine ia_getf rfl g1.1.1 rfl ?_
  rw [g3]
  refine rm_st (K := 19) rfl g1 (by decide) rfl (show s0 < 80 from hs0) (by decide) (fun h3 hm => ?_)
  refine ia_go 1 rfl ?_
  exact jd_rv0 rfl rfl rfl ⟨rfl, pb_set g1 g2 g3 g4 g5 (by omega) hm⟩
theorem bt3 (hd : 1 ≤ d) (hp : pb h0 h F S F1 s e) (hs : s < 80) (hs0 : s0 < 80) : ia_Cn pg G kk_M_between d 0 0 [.ref 117, .int (-3), .int (nI s0)] h (fun rv h' => rv = none ∧ pb h0 h' F S (rm_u (em F1 s 3 (nI s0) 0) 19 s0 (nI (s + 1))) (s + 1) e) := by
  obtain ⟨S9, q9⟩ := hp.o
  refine jd_met (ls := [.ref 117, .int (-3), .int (nI s0), .retAddr 0]) rfl rfl rfl ?_
  refine ia_go 3 rfl ?_
  rw [if_pos (by decide)]
  refine ia_go 3 rfl ?_
  rw [if_pos (by decide)]
  refine ia_go 4 rfl ?_
  refine jd_cV 117 [.int 3, .int (nI s0), .int 0] [] 0 0 (d' := d - 1) rfl rfl rfl q9 rfl rfl (by omega) (by omega) (by omega) (pb_emit hp hs) ?_
  rintro rv h2 ⟨rfl, hp⟩
  obtain ⟨S1, g1, g2, g3, g4, g5⟩ := id hp
  refine ia_go 2 rfl ?_
  refine ia_getf rfl g1.1.1 rfl ?_
  refine ia_go 2 rfl ?_
  refine ia_getf rfl g1.1.1 rfl ?_
  rw [g3]
  refine rm_st (K := 19) rfl g1 (by decide) rfl (show s0 < 80 from hs0) (by decide) (fun h3 hm => ?_)
  exact jd_rv0 rfl rfl rfl ⟨rfl, pb_set g1 g2 g3 g4 g5 (by omega) hm⟩
/-- one piece of work that is a node, with all that comes of it -/
theorem pl_main {Post : Option Value → ia_H → Prop} (hd : 2 ≤ d) (hk : kd F LW K1 K2 V r) : ∀ (k n s e : Nat) (F1 : Nat → Nat → Int32) (h : ia_H), pb h0 h F S F1 s (e + 1) → F1 21 e = nI n → 1 ≤ n → n ≤ 16 → F 2 n ≠ 0 → 16 ≤ r n + k → s + (cd LW K1 K2 V k n s).length ≤ 79 → e + 2 * k ≤ 70 → (∀ h' F2, pb h0 h' F S F2 (s + (cd LW K1 K2 V k n s).length) e → cr F2 s (cd LW K1 K2 V k n s) → (∀ q j, (18 ≤ q ∧ q ≤ 20 ∧ j < s) ∨ (21 ≤ q ∧ q ≤ 22 ∧ j < e) → F2 q j = F1 q j) → ia_Sx pg G kk_M_isProgram d 0 0 34 [.ref 117] [] h' Post) → ia_Sx pg G kk_M_isProgram d 0 0 34 [.ref 117] [] h Post := by
  intro k
  induction k with
  | zero =>
    intro n s e F1 h hp hx hn1 hn hF hr
    have := (hk n hn1 hn hF).1.2.2
    omega
  | succ k ih =>
    intro n s e F1 h hp hx hn1 hn hF hr hlen he kk
    obtain ⟨⟨k1, k2, k3⟩, k4, k5, k6⟩ := hk n hn1 hn hF
    have hb : ∀ q j, q < 18 ∨ 22 < q → F1 q j = F q j := by
      obtain ⟨S1, -, g2, -⟩ := hp
      exact g2
    have hl : F1 4 n = nI (LW n) := (hb 4 n (by omega)).trans k1
    have hx0 : ¬ nI n ≤ 0 := nI_ge (a := 0) hn1 (by omega)
    by_cases l2 : LW n = 2
    · have hcd : cd LW K1 K2 V (k + 1) n s = [(1, V n, n)] := by
        show (if LW n = 2 then _ else _) = _
        rw [if_pos l2]
      rw [hcd] at hlen kk
      rw [l2] at hl
      have hs : s < 79 := by simp at hlen; omega
      refine pp_pop (by omega) hp (by omega) hx hx0 (fun h1 hp1 => pd2 (by omega) hp1 (by omega) (by omega) hn hl) (fun h' hq => hq.o) (fun h' hq => kk h' _ hq ?_ (fun q j hqj => em_off (by omega)))
      have hv : F1 10 n = nI (V n) := (hb 10 n (by omega)).trans (k4 l2).1
      rw [cr_cons, hv]
      exact ⟨em_at, cr_nil⟩
    by_cases l3 : LW n = 3
    · have hcd : cd LW K1 K2 V (k + 1) n s = cd LW K1 K2 V k (K1 n) s ++ cd LW K1 K2 V k (K2 n) (s + (cd LW K1 K2 V k (K1 n) s).length) := by
        show (if LW n = 2 then _ else if LW n = 3 then _ else _) = _
        rw [if_neg l2, if_pos l3]
      rw [hcd] at hlen kk
      rw [List.length_append] at hlen
      rw [l3] at hl
      obtain ⟨a1, ⟨a2, a3, a4⟩, a5⟩ := k5 (by omega)
      obtain ⟨b1, ⟨b2, b3, b4⟩, b5⟩ := k6 (Or.inl l3)
      refine pp_pop (by omega) hp (by omega) hx hx0 (fun h1 hp1 => pd3 (by omega) hp1 (by omega) (by omega) hn hl) (fun h' hq => hq.o) (fun h2 hp2 => ?_)
      refine ih (K1 n) s (e + 1) _ h2 hp2 (lt_at.1.trans ((hb 5 n (by omega)).trans a1)) a2 a3 a4 (by omega) (by omega) (by omega) (fun h3 F3 hp3 hc3 hF3 => ?_)
      have w3 : F3 21 e = nI (K2 n) := by
        rw [hF3 21 e (by omega), lt_off (by omega), lt_at.1, hb 6 n (by omega)]; exact b1
      refine ih (K2 n) _ e F3 h3 hp3 w3 b2 b3 b4 (by omega) (by omega) (by omega) (fun h4 F4 hp4 hc4 hF4 => ?_)
      refine kk h4 F4 ?_ (cr_app (hc3.keep (fun q j q1 q2 q3 q4 => hF4 q j (by omega))) hc4) (fun q j hqj => ?_)
      · rw [List.length_append, ← Nat.add_assoc]; exact hp4
      · rw [hF4 q j (by omega), hF3 q j (by omega), lt_off (by omega), lt_off (by omega)]
    by_cases l4 : LW n = 4
    · generalize hA : cd LW K1 K2 V k (K1 n) (s + 1) = A
      generalize hB : cd LW K1 K2 V k (K2 n) (s + 1 + A.length + 1) = B
      have hcd : cd LW K1 K2 V (k + 1) n s = (2, s + 1 + A.length + 1, n) :: (A ++ (3, s + 1 + A.length + 1 + B.length, 0) :: B) := by
        show (if LW n = 2 then _ else if LW n = 3 then _ else if LW n = 4 then _ else _) = _
        rw [if_neg l2, if_neg l3, if_pos l4, hA, hB]
      rw [hcd] at hlen kk
      simp only [List.length_cons, List.length_append] at hlen
      rw [l4] at hl
      obtain ⟨a1, ⟨a2, a3, a4⟩, a5⟩ := k5 (by omega)
      obtain ⟨b1, ⟨b2, b3, b4⟩, b5⟩ := k6 (Or.inr l4)
      refine pp_pop (by omega) hp (by omega) hx hx0 (fun h1 hp1 => pd4 (by omega) hp1 (by omega) (by omega) hn hl) (fun h' hq => hq.o) (fun h2 hp2 => ?_)
      refine ih (K1 n) (s + 1) (e + 1) _ h2 hp2 (lt_at.1.trans ((hb 5 n (by omega)).trans a1)) a2 a3 a4 (by omega) (by rw [hA]; omega) (by omega) (fun h3 F3 hp3 hc3 hF3 => ?_)
      rw [hA] at hp3 hc3
      have x3 : F3 21 e = -1 := by
        rw [hF3 21 e (by omega), lt_off (by omega), rm_uk (by decide), lt_at.1]
      have y3 : F3 22 e = nI (100 * n + s) := by
        rw [hF3 22 e (by omega), lt_off (by omega), rm_uu]
      have hb3 : ∀ q j, q < 18 ∨ 22 < q → F3 q j = F q j := by
        obtain ⟨S1, -, g2, -⟩ := hp3
        exact g2
      refine pp_btw (by omega) hp3 (by omega) x3 y3 (by decide) (fun h1 hp1 => bt1 (by omega) hp1 (by omega) (by omega) hn (by omega)) (fun h4 hp4 => ?_)
      refine ih (K2 n) (s + 1 + A.length + 1) (e + 1) _ h4 hp4 (lt_at.1.trans ((hb3 6 n (by omega)).trans b1)) b2 b3 b4 (by omega) (by rw [hB]; omega) (by omega) (fun h5 F5 hp5 hc5 hF5 => ?_)
      rw [hB] at hp5 hc5
      have x5 : F5 21 e = -2 := by
        rw [hF5 21 e (by omega), lt_off (by omega), lt_at.1]
      have y5 : F5 22 e = nI (s + 1 + A.length) := by
        rw [hF5 22 e (by omega), lt_off (by omega), lt_at.2]
      refine pp_btw (by omega) hp5 (by omega) x5 y5 (by decide) (fun h1 hp1 => bt2 hp1 (by omega)) (fun h6 hp6 => ?_)
      have e5 : ∀ q j, 18 ≤ q → q ≤ 20 → j < s + 1 + A.length + 1 → F5 q j = rm_u (em F3 (s + 1 + A.length) 3 0 0) 19 s (nI (s + 1 + A.length + 1)) q j := fun q j q1 q2 q3 => by
        rw [hF5 q j (by omega), lt_off (by omega), lt_off (by omega)]
      have e6 : ∀ q j, q ≠ 19 ∨ j ≠ s + 1 + A.length → rm_u F5 19 (s + 1 + A.length) (nI (s + 1 + A.length + 1 + B.length)) q j = F5 q j := fun q j h => by
        by_cases hq : q = 19
        · subst hq; exact rm_un (by omega)
        · exact rm_uk hq
      have e4 : ∀ q j, q ≠ 19 ∨ j ≠ s → rm_u (em F3 (s + 1 + A.length) 3 0 0) 19 s (nI (s + 1 + A.length + 1)) q j = em F3 (s + 1 + A.length) 3 0 0 q j := fun q j h => by
        by_cases hq : q = 19
        · subst hq; exact rm_un (by omega)
        · exact rm_uk hq
      have z3 : ∀ q, 18 ≤ q → q ≤ 20 → F3 q s = em F1 s 2 0 (nI n) q s := fun q q1 q2 => by
        rw [hF3 q s (by omega), lt_off (by omega), rm_uk (by omega), lt_off (by omega)]
      refine kk h6 (rm_u F5 19 (s + 1 + A.length) (nI (s + 1 + A.length + 1 + B.length))) ?_ ?_ (fun q j hqj => ?_)
      · have : s + ((2, s + 1 + A.length + 1, n) :: (A ++ (3, s + 1 + A.length + 1 + B.length, 0) :: B)).length = s + 1 + A.length + 1 + B.length := by simp; omega
        rw [this]; exact hp6
      · rw [cr_cons]
        refine ⟨⟨?_, ?_, ?_⟩, cr_app (hc3.keep (fun q j q1 q2 q3 q4 => ?_)) (cr_cons.mpr ⟨⟨?_, rm_uu, ?_⟩, hc5.keep (fun q j q1 q2 q3 q4 => e6 q j (by omega))⟩)⟩
        · rw [e6 18 s (by omega), e5 18 s (by omega) (by omega) (by omega), e4 18 s (by omega), em_off (by omega), z3 18 (by omega) (by omega)]; exact em_at.1
        · rw [e6 19 s (by omega), e5 19 s (by omega) (by omega) (by omega), rm_uu]
        · rw [e6 20 s (by omega), e5 20 s (by omega) (by omega) (by omega), e4 20 s (by omega), em_off (by omega), z3 20 (by omega) (by omega)]; exact em_at.2.2
        · rw [e6 q j (by omega), e5 q j (by omega) (by omega) (by omega), e4 q j (by omega), em_off (by omega)]
        · rw [e6 18 _ (by omega), e5 18 _ (by omega) (by omega) (by omega), e4 18 _ (by omega)]; exact em_at.1
        · rw [e6 20 _ (by omega), e5 20 _ (by omega) (by omega) (by omega), e4 20 _ (by omega)]; exact em_at.2.2
      · rw [e6 q j (by omega), hF5 q j (by omega), lt_off (by omega), lt_off (by omega), e4 q j (by omega), em_off (by omega), hF3 q j (by omega), lt_off (by omega)]
        rw [show rm_u (lt (em F1 s 2 0 (nI n)) e (-1) (nI n)) 22 e (nI (100 * n + s)) q j = lt (em F1 s 2 0 (nI n)) e (-1) (nI n) q j by
          by_cases hq : q = 22
          · subst hq; exact rm_un (by omega)
          · exact rm_uk hq]
        rw [lt_off (by omega), em_off (by omega)]
    by_cases l5 : LW n = 5
    · generalize hA : cd LW K1 K2 V k (K1 n) (s + 1) = A
      have hcd : cd LW K1 K2 V (k + 1) n s = (2, s + 1 + A.length + 1, n) :: (A ++ [(3, s, 0)]) := by
        show (if LW n = 2 then _ else if LW n = 3 then _ else if LW n = 4 then _ else if LW n = 5 then _ else _) = _
        rw [if_neg l2, if_neg l3, if_neg l4, if_pos l5, hA]
      rw [hcd] at hlen kk
      simp only [List.length_cons, List.length_append, List.length_nil] at hlen
      rw [l5] at hl
      obtain ⟨a1, ⟨a2, a3, a4⟩, a5⟩ := k5 (by omega)
      refine pp_pop (by omega) hp (by omega) hx hx0 (fun h1 hp1 => pd5 (by omega) hp1 (by omega) (by omega) hn hl) (fun h' hq => hq.o) (fun h2 hp2 => ?_)
      refine ih (K1 n) (s + 1) (e + 1) _ h2 hp2 (lt_at.1.trans ((hb 5 n (by omega)).trans a1)) a2 a3 a4 (by omega) (by rw [hA]; omega) (by omega) (fun h3 F3 hp3 hc3 hF3 => ?_)
      rw [hA] at hp3 hc3
      have x3 : F3 21 e = -3 := by
        rw [hF3 21 e (by omega), lt_off (by omega), lt_at.1]
      have y3 : F3 22 e = nI s := by
        rw [hF3 22 e (by omega), lt_off (by omega), lt_at.2]
      refine pp_btw (by omega) hp3 (by omega) x3 y3 (by decide) (fun h1 hp1 => bt3 (by omega) hp1 (by omega) (by omega)) (fun h4 hp4 => ?_)
      have e4 : ∀ q j, q ≠ 19 ∨ j ≠ s → rm_u (em F3 (s + 1 + A.length) 3 (nI s) 0) 19 s (nI (s + 1 + A.length + 1)) q j = em F3 (s + 1 + A.length) 3 (nI s) 0 q j := fun q j h => by
        by_cases hq : q = 19
        · subst hq; exact rm_un (by omega)
        · exact rm_uk hq
      have z3 : ∀ q, 18 ≤ q → q ≤ 20 → F3 q s = em F1 s 2 0 (nI n) q s := fun q q1 q2 => by
        rw [hF3 q s (by omega), lt_off (by omega), lt_off (by omega)]
      refine kk h4 (rm_u (em F3 (s + 1 + A.length) 3 (nI s) 0) 19 s (nI (s + 1 + A.length + 1))) ?_ ?_ (fun q j hqj => ?_)
      · have : s + ((2, s + 1 + A.length + 1, n) :: (A ++ [(3, s, 0)])).length = s + 1 + A.length + 1 := by simp; omega
        rw [this]; exact hp4
      · rw [cr_cons]
        refine ⟨⟨?_, rm_uu, ?_⟩, cr_app (hc3.keep (fun q j q1 q2 q3 q4 => ?_)) (cr_cons.mpr ⟨⟨?_, ?_, ?_⟩, cr_nil⟩)⟩
        · rw [e4 18 s (by omega), em_off (by omega), z3 18 (by omega) (by omega)]; exact em_at.1
        · rw [e4 20 s (by omega), em_off (by omega), z3 20 (by omega) (by omega)]; exact em_at.2.2
        · rw [e4 q j (by omega), em_off (by omega)]
        · rw [e4 18 _ (by omega)]; exact em_at.1
        · rw [e4 19 _ (by omega)]; exact em_at.2.1
        · rw [e4 20 _ (by omega)]; exact em_at.2.2
      · rw [e4 q j (by omega), em_off (by omega), hF3 q j (by omega), lt_off (by omega), lt_off (by omega), em_off (by omega)]
    by_cases l6 : 5 < LW n
    · have hcd : cd LW K1 K2 V (k + 1) n s = cd LW K1 K2 V k (K1 n) s := by
        show (if LW n = 2 then _ else if LW n = 3 then _ else if LW n = 4 then _ else if LW n = 5 then _ else if 5 < LW n then _ else _) = _
        rw [if_neg l2, if_neg l3, if_neg l4, if_neg l5, if_pos l6]
      rw [hcd] at hlen kk
      obtain ⟨a1, ⟨a2, a3, a4⟩, a5⟩ := k5 (by omega)
      refine pp_pop (by omega) hp (by omega) hx hx0 (fun h1 hp1 => pd6 l6 k2 (by omega) hp1 (by omega) (by omega) hn hl) (fun h' hq => hq.o) (fun h2 hp2 => ?_)
      refine ih (K1 n) s e _ h2 hp2 (lt_at.1.trans ((hb 5 n (by omega)).trans a1)) a2 a3 a4 (by omega) hlen (by omega) (fun h3 F3 hp3 hc3 hF3 => kk h3 F3 hp3 hc3 (fun q j hqj => ?_))
      rw [hF3 q j hqj, lt_off (by omega)]
    · have hcd : cd LW K1 K2 V (k + 1) n s = [] := by
        show (if LW n = 2 then _ else if LW n = 3 then _ else if LW n = 4 then _ else if LW n = 5 then _ else if 5 < LW n then _ else _) = _
        rw [if_neg l2, if_neg l3, if_neg l4, if_neg l5, if_neg l6]
      rw [hcd] at hlen kk
      refine pp_pop (by omega) hp (by omega) hx hx0 (fun h1 hp1 => pd1 (by omega) (by omega) hp1 (by simp at hlen; omega) (by omega) hn hl) (fun h' hq => hq.o) (fun h2 hp2 => kk h2 _ hp2 cr_nil (fun q j hqj => rfl))
end PB
