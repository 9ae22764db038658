/-! THE REFERENCE, 25: putDown, between and the work list. -/
def em (F : Nat → Nat → Int32) (s : Nat) (a b c : Int32) : Nat → Nat → Int32 := rm_u (rm_u (rm_u F 18 s a) 19 s b) 20 s c
def lt (F : Nat → Nat → Int32) (e : Nat) (a b : Int32) : Nat → Nat → Int32 := rm_u (rm_u F 21 e a) 22 e b
theorem em_off {F : Nat → Nat → Int32} {s k j : Nat} {a b c : Int32} (h : k < 18 ∨ 20 < k ∨ j ≠ s) : em F s a b c k j = F k j := by
  unfold em rm_u
  by_cases hj : j = s
  · rw [if_neg (by omega), if_neg (by omega), if_neg (by omega)]
  · simp [hj]
theorem em_at {F : Nat → Nat → Int32} {s : Nat} {a b c : Int32} : em F s a b c 18 s = a ∧ em F s a b c 19 s = b ∧ em F s a b c 20 s = c := by
  unfold em rm_u
  simp
theorem lt_off {F : Nat → Nat → Int32} {e k j : Nat} {a b : Int32} (h : k < 21 ∨ 22 < k ∨ j ≠ e) : lt F e a b k j = F k j := by
  unfold lt rm_u
  by_cases hj : j = e
  · rw [if_neg (by omega), if_neg (by omega)]
  · simp [hj]
theorem lt_at {F : Nat → Nat → Int32} {e : Nat} {a b : Int32} : lt F e a b 21 e = a ∧ lt F e a b 22 e = b := by
  unfold lt rm_u
  simp
/-- the program is being laid out: s instructions, e pieces of work -/
def pb (h0 h : ia_H) (F : Nat → Nat → Int32) (S : Nat → Int32) (F1 : Nat → Nat → Int32) (s e : Nat) : Prop := ∃ S1, rm_X h0 h F1 S1 ∧ (∀ k j, k < 18 ∨ 22 < k → F1 k j = F k j) ∧ S1 4 = nI s ∧ S1 5 = nI e ∧ ∀ k, k ≠ 4 → k ≠ 5 → S1 k = S k
section PB
variable {G : ia_G} {h0 h : ia_H} {d s e n : Nat} {F F1 : Nat → Nat → Int32} {S : Nat → Int32} {LW K1 K2 V r : Nat → Nat}
theorem pb.o (hp : pb h0 h F S F1 s e) : ∃ S9, h.1 117 = some (.inr (8, rm_f S9)) := by
  obtain ⟨S1, h1, -⟩ := hp
  exact ⟨S1, h1.1.1⟩
theorem pb_emit {a b c : Int32} (hp : pb h0 h F S F1 s e) (hs : s < 80) : ia_Cn pg G kk_M_emit d 0 0 [.ref 117, .int a, .int b, .int c] h (fun rv h' => rv = some (.int (nI s)) ∧ pb h0 h' F S (em F1 s a b c) (s + 1) e) := by
  obtain ⟨S1, g1, g2, g3, g4, g5⟩ := hp
  refine ia_Cn.mono (rm_emit g1.1 g3 hs) ?_
  rintro rv h' ⟨rfl, hm⟩
  refine ⟨rfl, _, g1.tr hm, fun k j hk => (em_off (by omega)).trans (g2 k j hk), rfl, g4, fun k k1 k2 => ?_⟩
  unfold rm_s; rw [if_neg k1]; exact g5 k k1 k2
theorem pb_later {a b : Int32} (hp : pb h0 h F S F1 s e) (he : e < 80) : ia_Cn pg G kk_M_later d 0 0 [.ref 117, .int a, .int b] h (fun rv h' => rv = none ∧ pb h0 h' F S (lt F1 e a b) s (e + 1)) := by
  obtain ⟨S1, g1, g2, g3, g4, g5⟩ := hp
  refine ia_Cn.mono (rm_later g1.1 g4 he) ?_
  rintro rv h' ⟨rfl, hm⟩
  refine ⟨rfl, _, g1.tr hm, fun k j hk => (lt_off (by omega)).trans (g2 k j hk), g3, rfl, fun k k1 k2 => ?_⟩
  unfold rm_s; rw [if_neg k2]; exact g5 k k1 k2
theorem pb_set {k' j' : Nat} {x : Int32} {h' : ia_H} {S1 : Nat → Int32} (g1 : rm_X h0 h F1 S1) (g2 : ∀ k j, k < 18 ∨ 22 < k → F1 k j = F k j) (g3 : S1 4 = nI s) (g4 : S1 5 = nI e) (g5 : ∀ k, k ≠ 4 → k ≠ 5 → S1 k = S k) (hk : 18 ≤ k' ∧ k' ≤ 22) (hm : rm_X h0 h' (rm_u F1 k' j' x) S1) : pb h0 h' F S (rm_u F1 k' j' x) s e := ⟨S1, hm, fun k j h => (rm_uk (by omega)).trans (g2 k j h), g3, g4, g5⟩
/-- one piece of work: a node -/
theorem pp_pop {d : Nat} {x : Int32} {Post : Option Value → ia_H → Prop} {Q : ia_H → Prop} (hd : 1 ≤ d) (hp : pb h0 h F S F1 s (e + 1)) (he : e < 80) (hx : F1 21 e = x) (hx0 : ¬ x ≤ 0) (hQ : ∀ h1, pb h0 h1 F S F1 s e → ia_Cn pg G kk_M_putDown (d - 1) 0 0 [.ref 117, .int x] h1 (fun rv h' => rv = none ∧ Q h')) (ho : ∀ h', Q h' → ∃ S9, h'.1 117 = some (.inr (8, rm_f S9))) (kk : ∀ h', Q h' → ia_Sx pg G kk_M_isProgram d 0 0 34 [.ref 117] [] h' Post) : ia_Sx pg G kk_M_isProgram d 0 0 34 [.ref 117] [] h Post := by
  obtain ⟨S1, g1, g2, g3, g4, g5⟩ := hp
  have hsub : nI (e + 1) - 1 = nI e := jd_sub (b := 1) (by omega)
  refine ia_go 1 rfl ?_
  refine ia_getf rfl g1.1.1 rfl ?_
  refine ia_go 1 rfl ?_
  rw [g4]
  rw [if_neg (show ¬ nI (e + 1) ≤ 0 from nI_ge (a := 0) (by omega) (by omega))]
  refine ia_go 2 rfl ?_
  refine ia_getf rfl g1.1.1 rfl ?_
  refine ia_go 2 rfl ?_
  rw [g4, hsub]
  refine rm_put (sk := 5) rfl g1 rfl rfl (fun h1 g1 => ?_)
  refine ia_go 1 rfl ?_
  refine ia_getf rfl g1.1.1 rfl ?_
  refine ia_go 1 rfl ?_
  refine ia_getf rfl g1.1.1 rfl ?_
  rw [show rm_s S1 5 (nI e) 5 = nI e from rfl]
  refine rm_ld (K := 21) rfl g1 (by decide) rfl (show e < 80 from he) (by decide) ?_
  rw [hx]
  refine ia_go 1 rfl ?_
  rw [if_neg hx0]
  refine ia_go 2 rfl ?_
  refine ia_getf rfl g1.1.1 rfl ?_
  refine ia_go 1 rfl ?_
  refine ia_getf rfl g1.1.1 rfl ?_
  rw [show rm_s S1 5 (nI e) 5 = nI e from rfl]
  refine rm_ld (K := 21) rfl g1 (by decide) rfl (show e < 80 from he) (by decide) ?_
  rw [hx]
  refine jd_cV 117 [.int x] [] 0 0 (d' := d - 1) rfl rfl rfl g1.1.1 rfl rfl (by omega) (by omega) (by omega) (hQ h1 ⟨_, g1, g2, g3, rfl, fun k k1 k2 => by unfold rm_s; rw [if_neg k2]; exact g5 k k1 k2⟩) ?_
  rintro rv h2 ⟨rfl, hq⟩
  refine ia_go 1 rfl ?_
  exact kk h2 hq
theorem pp_btw {d : Nat} {x y : Int32} {Post : Option Value → ia_H → Prop} {Q : ia_H → Prop} (hd : 1 ≤ d) (hp : pb h0 h F S F1 s (e + 1)) (he : e < 80) (hx : F1 21 e = x) (hy : F1 22 e = y) (hx0 : x ≤ 0) (hQ : ∀ h1, pb h0 h1 F S F1 s e → ia_Cn pg G kk_M_between (d - 1) 0 0 [.ref 117, .int x, .int y] h1 (fun rv h' => rv = none ∧ Q h')) (kk : ∀ h', Q h' → ia_Sx pg G kk_M_isProgram d 0 0 34 [.ref 117] [] h' Post) : ia_Sx pg G kk_M_isProgram d 0 0 34 [.ref 117] [] h Post := by
  obtain ⟨S1, g1, g2, g3, g4, g5⟩ := hp
  have hsub : nI (e + 1) - 1 = nI e := jd_sub (b := 1) (by omega)
  refine ia_go 1 rfl ?_
  refine ia_getf rfl g1.1.1 rfl ?_
  refine ia_go 1 rfl ?_
  rw [g4]
  rw [if_neg (show ¬ nI (e + 1) ≤ 0 from nI_ge (a := 0) (by omega) (by omega))]
  refine ia_go 2 rfl ?_
  refine ia_getf rfl g1.1.1 rfl ?_
  refine ia_go 2 rfl ?_
  rw [g4, hsub]
  refine rm_put (sk := 5) rfl g1 rfl rfl (fun h1 g1 => ?_)
  refine ia_go 1 rfl ?_
  refine ia_getf rfl g1.1.1 rfl ?_
  refine ia_go 1 rfl ?_
  refine ia_getf rfl g1.1.1 rfl ?_
  rw [show rm_s S1 5 (nI e) 5 = nI e from rfl]
  refine rm_ld (K := 21) rfl g1 (by decide) rfl (show e < 80 from he) (by decide) ?_
  rw [hx]
  refine ia_go 1 rfl ?_
  rw [if_pos hx0]
  refine ia_go 2 rfl ?_
  refine ia_getf rfl g1.1.1 rfl ?_
  refine ia_go 1 rfl ?_
  refine ia_getf rfl g1.1.1 rfl ?_
  rw [show rm_s S1 5 (nI e) 5 = nI e from rfl]
  refine rm_ld (K := 21) rfl g1 (by decide) rfl (show e < 80 from he) (by decide) ?_
  rw [hx]
  refine ia_go 1 rfl ?_
  refine ia_getf rfl g1.1.1 rfl ?_
  refine ia_go 1 rfl ?_
  refine ia_getf rfl g1.1.1 rfl ?_
  rw [show rm_s S1 5 (nI e) 5 = nI e from rfl]
  refine rm_ld (K := 22) rfl g1 (by decide) rfl (show e < 80 from he) (by decide) ?_
  rw [hy]
  refine jd_cV 117 [.int x, .int y] [] 0 0 (d' := d - 1) rfl rfl rfl g1.1.1 rfl rfl (by omega) (by omega) (by omega) (hQ h1 ⟨_, g1, g2, g3, rfl, fun k k1 k2 => by unfold rm_s; rw [if_neg k2]; exact g5 k k1 k2⟩) ?_
  rintro rv h2 ⟨rfl, hq⟩
  refine ia_go 1 rfl ?_
  exact kk h2 hq
theorem pd2 (hd : 1 ≤ d) (hp : pb h0 h F S F1 s e) (hs : s < 80) (he : e + 1 < 80) (hn : n ≤ 16) (hl : F1 4 n = nI 2) : ia_Cn pg G kk_M_putDown d 0 0 [.ref 117, .int (nI n)] h (fun rv h' => rv = none ∧ pb h0 h' F S (em F1 s 1 (F1 10 n) (nI n)) (s + 1) e) := by
  have hp0 := hp
  obtain ⟨S1, g1, g2, g3, g4, g5⟩ := hp
  refine jd_met (ls := [.ref 117, .int (nI n), .retAddr 0]) rfl rfl rfl ?_
  refine ia_go 1 rfl ?_
  refine ia_getf rfl g1.1.1 rfl ?_
  refine ia_go 1 rfl ?_
  refine rm_ld (K := 4) rfl g1 (by decide) rfl (show n < 17 by omega) (by decide) ?_
  rw [hl]
  refine ia_go 2 rfl ?_
  rw [if_neg (fun z => z (by decide))]
  refine ia_go 3 rfl ?_
  refine ia_getf rfl g1.1.1 rfl ?_
  refine ia_go 1 rfl ?_
  refine rm_ld (K := 10) rfl g1 (by decide) rfl (show n < 17 by omega) (by decide) ?_
  refine ia_go 1 rfl ?_
  refine jd_cV 117 [.int 1, .int (F1 10 n), .int (nI n)] [] 0 0 (d' := d - 1) rfl rfl rfl g1.1.1 rfl rfl (by omega) (by omega) (by omega) (pb_emit hp0 hs) ?_
  rintro rv h2 ⟨rfl, hp0⟩
  refine ia_go 2 rfl ?_
  exact jd_rv0 rfl rfl rfl ⟨rfl, hp0⟩
theorem pd3 (hd : 1 ≤ d) (hp : pb h0 h F S F1 s e) (hs : s < 80) (he : e + 1 < 80) (hn : n ≤ 16) (hl : F1 4 n = nI 3) : ia_Cn pg G kk_M_putDown d 0 0 [.ref 117, .int (nI n)] h (fun rv h' => rv = none ∧ pb h0 h' F S (lt (lt F1 e (F1 6 n) 0) (e + 1) (F1 5 n) 0) s (e + 1 + 1)) := by
  have hp0 := hp
  obtain ⟨S1, g1, g2, g3, g4, g5⟩ := hp
  refine jd_met (ls := [.ref 117, .int (nI n), .retAddr 0]) rfl rfl rfl ?_
  refine ia_go 1 rfl ?_
  refine ia_getf rfl g1.1.1 rfl ?_
  refine ia_go 1 rfl ?_
  refine rm_ld (K := 4) rfl g1 (by decide) rfl (show n < 17 by omega) (by decide) ?_
  rw [hl]
  refine ia_go 2 rfl ?_
  rw [if_pos (by decide)]
  refine ia_go 1 rfl ?_
  refine ia_getf rfl g1.1.1 rfl ?_
  refine ia_go 1 rfl ?_
  refine rm_ld (K := 4) rfl g1 (by decide) rfl (show n < 17 by omega) (by decide) ?_
  rw [hl]
  refine ia_go 2 rfl ?_
  rw [if_neg (fun z => z (by decide))]
  refine ia_go 2 rfl ?_
  refine ia_getf rfl g1.1.1 rfl ?_
  refine ia_go 1 rfl ?_
  refine rm_ld (K := 6) rfl g1 (by decide) rfl (show n < 17 by omega) (by decide) ?_
  obtain ⟨S9, q9⟩ := hp0.o
  refine ia_go 1 rfl ?_
  refine jd_cV 117 [.int (F1 6 n), .int 0] [] 0 0 (d' := d - 1) rfl rfl rfl q9 rfl rfl (by omega) (by omega) (by omega) (pb_later hp0 (by omega)) ?_
  rintro rv h2 ⟨rfl, hp0⟩
  obtain ⟨S1, g1, g2, g3, g4, g5⟩ := id hp0
  refine ia_go 2 rfl ?_
  refine ia_getf rfl g1.1.1 rfl ?_
  refine ia_go 1 rfl ?_
  refine rm_ld (K := 5) rfl g1 (by decide) rfl (show n < 17 by omega) (by decide) ?_
  rw [show lt F1 e (F1 6 n) 0 5 n = F1 5 n from lt_off (by omega)]
  obtain ⟨S9, q9⟩ := hp0.o
  refine ia_go 1 rfl ?_
  refine jd_cV 117 [.int (F1 5 n), .int 0] [] 0 0 (d' := d - 1) rfl rfl rfl q9 rfl rfl (by omega) (by omega) (by omega) (pb_later hp0 (by omega)) ?_
  rintro rv h2 ⟨rfl, hp0⟩
  refine ia_go 1 rfl ?_
  exact jd_rv0 rfl rfl rfl ⟨rfl, hp0⟩
theorem pd4 (hd : 1 ≤ d) (hp : pb h0 h F S F1 s e) (hs : s < 80) (he : e + 1 < 80) (hn : n ≤ 16) (hl : F1 4 n = nI 4) : ia_Cn pg G kk_M_putDown d 0 0 [.ref 117, .int (nI n)] h (fun rv h' => rv = none ∧ pb h0 h' F S (lt (rm_u (lt (em F1 s 2 0 (nI n)) e (-1) (nI n)) 22 e (nI (100 * n + s))) (e + 1) (F1 5 n) 0) (s + 1) (e + 1 + 1)) := by
  have hp0 := hp
  obtain ⟨S1, g1, g2, g3, g4, g5⟩ := hp
  refine jd_met (ls := [.ref 117, .int (nI n), .retAddr 0]) rfl rfl rfl ?_
  refine ia_go 1 rfl ?_
  refine ia_getf rfl g1.1.1 rfl ?_
  refine ia_go 1 rfl ?_
  refine rm_ld (K := 4) rfl g1 (by decide) rfl (show n < 17 by omega) (by decide) ?_
  rw [hl]
  refine ia_go 2 rfl ?_
  rw [if_pos (by decide)]
  refine ia_go 1 rfl ?_
  refine ia_getf rfl g1.1.1 rfl ?_
  refine ia_go 1 rfl ?_
  refine rm_ld (K := 4) rfl g1 (by decide) rfl (show n < 17 by omega) (by decide) ?_
  rw [hl]
  refine ia_go 2 rfl ?_
  rw [if_pos (by decide)]
  refine ia_go 1 rfl ?_
  refine ia_getf rfl g1.1.1 rfl ?_
  refine ia_go 1 rfl ?_
  refine rm_ld (K := 4) rfl g1 (by decide) rfl (show n < 17 by omega) (by decide) ?_
  rw [hl]
  refine ia_go 2 rfl ?_
  rw [if_neg (fun z => z (by decide))]
  refine ia_go 4 rfl ?_
  refine jd_cV 117 [.int 2, .int 0, .int (nI n)] [] 0 0 (d' := d - 1) rfl rfl rfl g1.1.1 rfl rfl (by omega) (by omega) (by omega) (pb_emit hp0 hs) ?_
  rintro rv h2 ⟨rfl, hp0⟩
  obtain ⟨S9, q9⟩ := hp0.o
  refine ia_go 1 rfl ?_
  dsimp only [ia_s1, ia_s2, ia_cl, ia_D, List.getElem?_cons_zero, List.getElem?_cons_succ, List.set_cons_zero, List.set_cons_succ]
  refine ia_go 3 rfl ?_
  refine jd_cV 117 [.int (-1), .int (nI n)] [] 0 0 (d' := d - 1) rfl rfl rfl q9 rfl rfl (by omega) (by omega) (by omega) (pb_later hp0 (by omega)) ?_
  rintro rv h2 ⟨rfl, hp0⟩
  obtain ⟨S1, g1, g2, g3, g4, g5⟩ := id hp0
  refine ia_go 1 rfl ?_
  refine ia_getf rfl g1.1.1 rfl ?_
  refine ia_go 1 rfl ?_
  refine ia_getf rfl g1.1.1 rfl ?_
  refine ia_go 7 rfl ?_
  rw [g4, show nI (e + 1) - 1 = nI e from jd_sub (b := 1) (by omega), show (100 : Int32) * nI n + nI s = nI (100 * n + s) by unfold nI; rw [Int32.ofNat_add, Int32.ofNat_mul]; rfl]
  refine rm_st (K := 22) rfl g1 (by decide) rfl (show e < 80 by omega) (by decide) (fun h3 hm => ?_)
  have hp0 := pb_set g1 g2 g3 g4 g5 (by omega) hm
  obtain ⟨S1, g1, g2, g3, g4, g5⟩ := id hp0
  refine ia_go 2 rfl ?_
  refine ia_getf rfl g1.1.1 rfl ?_
  refine ia_go 1 rfl ?_
  refine rm_ld (K := 5) rfl g1 (by decide) rfl (show n < 17 by omega) (by decide) ?_
  rw [show rm_u (lt (em F1 s 2 0 (nI n)) e (-1) (nI n)) 22 e (nI (100 * n + s)) 5 n = F1 5 n from (rm_uk (by decide)).trans ((lt_off (by omega)).trans (em_off (by omega)))]
  obtain ⟨S9, q9⟩ := hp0.o
  refine ia_go 1 rfl ?_
  refine jd_cV 117 [.int (F1 5 n), .int 0] [] 0 0 (d' := d - 1) rfl rfl rfl q9 rfl rfl (by omega) (by omega) (by omega) (pb_later hp0 (by omega)) ?_
  rintro rv h2 ⟨rfl, hp0⟩
  refine ia_go 1 rfl ?_
  exact jd_rv0 rfl rfl rfl ⟨rfl, hp0⟩
theorem pd5 (hd : 1 ≤ d) (hp : pb h0 h F S F1 s e) (hs : s < 80) (he : e + 1 < 80) (hn : n ≤ 16) (hl : F1 4 n = nI 5) : ia_Cn pg G kk_M_putDown d 0 0 [.ref 117, .int (nI n)] h (fun rv h' => rv = none ∧ pb h0 h' F S (lt (lt (em F1 s 2 0 (nI n)) e (-3) (nI s)) (e + 1) (F1 5 n) 0) (s + 1) (e + 1 + 1)) := by
  have hp0 := hp
  obtain ⟨S1, g1, g2, g3, g4, g5⟩ := hp
  refine jd_met (ls := [.ref 117, .int (nI n), .retAddr 0]) rfl rfl rfl ?_
  refine ia_go 1 rfl ?_
  refine ia_getf rfl g1.1.1 rfl ?_
  refine ia_go 1 rfl ?_
  refine rm_ld (K := 4) rfl g1 (by decide) rfl (show n < 17 by omega) (by decide) ?_
  rw [hl]
  refine ia_go 2 rfl ?_
  rw [if_pos (by decide)]
  refine ia_go 1 rfl ?_
  refine ia_getf rfl g1.1.1 rfl ?_
  refine ia_go 1 rfl ?_
  refine rm_ld (K := 4) rfl g1 (by decide) rfl (show n < 17 by omega) (by decide) ?_
  rw [hl]
  refine ia_go 2 rfl ?_
  rw [if_pos (by decide)]
  refine ia_go 1 rfl ?_
  refine ia_getf rfl g1.1.1 rfl ?_
  refine ia_go 1 rfl ?_
  refine rm_ld (K := 4) rfl g1 (by decide) rfl (show n < 17 by omega) (by decide) ?_
  rw [hl]
  refine ia_go 2 rfl ?_
  rw [if_pos (by decide)]
  refine ia_go 1 rfl ?_
  refine ia_getf rfl g1.1.1 rfl ?_
  refine ia_go 1 rfl ?_
  refine rm_ld (K := 4) rfl g1 (by decide) rfl (show n < 17 by omega) (by decide) ?_
  rw [hl]
  refine ia_go 2 rfl ?_
  rw [if_neg (fun z => z (by decide))]
  refine ia_go 4 rfl ?_
  refine jd_cV 117 [.int 2, .int 0, .int (nI n)] [] 0 0 (d' := d - 1) rfl rfl rfl g1.1.1 rfl rfl (by omega) (by omega) (by omega) (pb_emit hp0 hs) ?_
  rintro rv h2 ⟨rfl, hp0⟩
  obtain ⟨S9, q9⟩ := hp0.o
  refine ia_go 1 rfl ?_
  dsimp only [ia_s1, ia_s2, ia_cl, ia_D, List.getElem?_cons_zero, List.getElem?_cons_succ, List.set_cons_zero, List.set_cons_succ]
  refine ia_go 3 rfl ?_
  refine jd_cV 117 [.int (-3), .int (nI s)] [] 0 0 (d' := d - 1) rfl rfl rfl q9 rfl rfl (by omega) (by omega) (by omega) (pb_later hp0 (by omega)) ?_
  rintro rv h2 ⟨rfl, hp0⟩
  obtain ⟨S1, g1, g2, g3, g4, g5⟩ := id hp0
  refine ia_go 2 rfl ?_
  refine ia_getf rfl g1.1.1 rfl ?_
  refine ia_go 1 rfl ?_
  refine rm_ld (K := 5) rfl g1 (by decide) rfl (show n < 17 by omega) (by decide) ?_
  rw [show lt (em F1 s 2 0 (nI n)) e (-3) (nI s) 5 n = F1 5 n from (lt_off (by omega)).trans (em_off (by omega))]
  obtain ⟨S9, q9⟩ := hp0.o
  refine ia_go 1 rfl ?_
  refine jd_cV 117 [.int (F1 5 n), .int 0] [] 0 0 (d' := d - 1) rfl rfl rfl q9 rfl rfl (by omega) (by omega) (by omega) (pb_later hp0 (by omega)) ?_
  rintro rv h2 ⟨rfl, hp0⟩
  refine ia_go 1 rfl ?_
  exact jd_rv0 rfl rfl rfl ⟨rfl, hp0⟩
theorem pd6 {lw : Nat} (h5 : 5 < lw) (h8 : lw ≤ 8) (hd : 1 ≤ d) (hp : pb h0 h F S F1 s e) (hs : s < 80) (he : e + 1 < 80) (hn : n ≤ 16) (hl : F1 4 n = nI lw) : ia_Cn pg G kk_M_putDown d 0 0 [.ref 117, .int (nI n)] h (fun rv h' => rv = none ∧ pb h0 h' F S (lt F1 e (F1 5 n) 0) s (e + 1)) := by
  have hp0 := hp
  obtain ⟨S1, g1, g2, g3, g4, g5⟩ := hp
  refine jd_met (ls := [.ref 117, .int (nI n), .retAddr 0]) rfl rfl rfl ?_
  refine ia_go 1 rfl ?_
  refine ia_getf rfl g1.1.1 rfl ?_
  refine ia_go 1 rfl ?_
  refine rm_ld (K := 4) rfl g1 (by decide) rfl (show n < 17 by omega) (by decide) ?_
  rw [hl]
  refine ia_go 2 rfl ?_
  rw [if_pos (show ¬ nI lw = 2 from fun z => absurd ((nI_eq (b := 2) (by omega) (by decide)).mp z) (by omega))]
  refine ia_go 1 rfl ?_
  refine ia_getf rfl g1.1.1 rfl ?_
  refine ia_go 1 rfl ?_
  refine rm_ld (K := 4) rfl g1 (by decide) rfl (show n < 17 by omega) (by decide) ?_
  rw [hl]
  refine ia_go 2 rfl ?_
  rw [if_pos (show ¬ nI lw = 3 from fun z => absurd ((nI_eq (b := 3) (by omega) (by decide)).mp z) (by omega))]
  refine ia_go 1 rfl ?_
  refine ia_getf rfl g1.1.1 rfl ?_
  refine ia_go 1 rfl ?_
  refine rm_ld (K := 4) rfl g1 (by decide) rfl (show n < 17 by omega) (by decide) ?_
  rw [hl]
  refine ia_go 2 rfl ?_
  rw [if_pos (show ¬ nI lw = 4 from fun z => absurd ((nI_eq (b := 4) (by omega) (by decide)).mp z) (by omega))]
  refine ia_go 1 rfl ?_
  refine ia_getf rfl g1.1.1 rfl ?_
  refine ia_go 1 rfl ?_
  refine rm_ld (K := 4) rfl g1 (by decide) rfl (show n < 17 by omega) (by decide) ?_
  rw [hl]
  refine ia_go 2 rfl ?_
  rw [if_pos (show ¬ nI lw = 5 from fun z => absurd ((nI_eq (b := 5) (by omega) (by decide)).mp z) (by omega))]
  refine ia_go 1 rfl ?_
  refine ia_getf rfl g1.1.1 rfl ?_
  refine ia_go 1 rfl ?_
  refine rm_ld (K := 4) rfl g1 (by decide) rfl (show n < 17 by omega) (by decide) ?_
  rw [hl]
  refine ia_go 2 rfl ?_
  rw [if_neg (show ¬ nI lw ≤ 5 from nI_ge (a := 5) h5 (by omega))]
  refine ia_go 2 rfl ?_
  refine ia_getf rfl g1.1.1 rfl ?_
  refine ia_go 1 rfl ?_
  refine rm_ld (K := 5) rfl g1 (by decide) rfl (show n < 17 by omega) (by decide) ?_
  obtain ⟨S9, q9⟩ := hp0.o
  refine ia_go 1 rfl ?_
  refine jd_cV 117 [.int (F1 5 n), .int 0] [] 0 0 (d' := d - 1) rfl rfl rfl q9 rfl rfl (by omega) (by omega) (by omega) (pb_later hp0 (by omega)) ?_
  rintro rv h2 ⟨rfl, hp0⟩
  exact jd_rv0 rfl rfl rfl ⟨rfl, hp0⟩
theorem pd1 {lw : Nat} (h1 : lw ≤ 1) (hd : 1 ≤ d) (hp : pb h0 h F S F1 s e) (hs : s < 80) (he : e + 1 < 80) (hn : n ≤ 16) (hl : F1 4 n = nI lw) : ia_Cn pg G kk_M_putDown d 0 0 [.ref 117, .int (nI n)] h (fun rv h' => rv = none ∧ pb h0 h' F S F1 s e) := by
  have hp0 := hp
  obtain ⟨S1, g1, g2, g3, g4, g5⟩ := hp
  refine jd_met (ls := [.ref 117, .int (nI n), .retAddr 0]) rfl rfl rfl ?_
  refine ia_go 1 rfl ?_
  refine ia_getf rfl g1.1.1 rfl ?_
  refine ia_go 1 rfl ?_
  refine rm_ld (K := 4) rfl g1 (by decide) rfl (show n < 17 by omega) (by decide) ?_
  rw [hl]
  refine ia_go 2 rfl ?_
  rw [if_pos (show ¬ nI lw = 2 from fun z => absurd ((nI_eq (b := 2) (by omega) (by decide)).mp z) (by omega))]
  refine ia_go 1 rfl ?_
  refine ia_getf rfl g1.1.1 rfl ?_
  refine ia_go 1 rfl ?_
  refine rm_ld (K := 4) rfl g1 (by decide) rfl (show n < 17 by omega) (by decide) ?_
  rw [hl]
  refine ia_go 2 rfl ?_
  rw [if_pos (show ¬ nI lw = 3 from fun z => absurd ((nI_eq (b := 3) (by omega) (by decide)).mp z) (by omega))]
  refine ia_go 1 rfl ?_
  refine ia_getf rfl g1.1.1 rfl ?_
  refine ia_go 1 rfl ?_
  refine rm_ld (K := 4) rfl g1 (by decide) rfl (show n < 17 by omega) (by decide) ?_
  rw [hl]
  refine ia_go 2 rfl ?_
  rw [if_pos (show ¬ nI lw = 4 from fun z => absurd ((nI_eq (b := 4) (by omega) (by decide)).mp z) (by omega))]
  refine ia_go 1 rfl ?_
  refine ia_getf rfl g1.1.1 rfl ?_
  refine ia_go 1 rfl ?_
  refine rm_ld (K := 4) rfl g1 (by decide) rfl (show n < 17 by omega) (by decide) ?_
  rw [hl]
  refine ia_go 2 rfl ?_
  rw [if_pos (show ¬ nI lw = 5 from fun z => absurd ((nI_eq (b := 5) (by omega) (by decide)).mp z) (by omega))]
  refine ia_go 1 rfl ?_
  refine ia_getf rfl g1.1.1 rfl ?_
  refine ia_go 1 rfl ?_
  refine rm_ld (K := 4) rfl g1 (by decide) rfl (show n < 17 by omega) (by decide) ?_
  rw [hl]
  refine ia_go 2 rfl ?_
  rw [if_pos (show nI lw ≤ 5 from nI_le (b := 5) (by omega) (by omega))]
  exact jd_rv0 rfl rfl rfl ⟨rfl, hp0⟩
end PB
