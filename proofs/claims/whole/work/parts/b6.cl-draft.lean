/-! THE CLASS, 7: the draft. -/
def dw (h : ia_H) (v c2 : Nat) (tl : Int32) (U : List Int32) : Prop := h.1 69 = some (.inr (2, [.ref 70, .int tl])) ∧ ∃ b, sx_b h 70 v c2 b ∧ (b = U ∨ (120 < b.length ∧ 120 < U.length)) ∧ b.length ≤ 240
def fl (P : Prop) (tl : Int32) : Prop := (tl = 0 ∧ P) ∨ (tl = 1 ∧ ¬ P)
def kl (h : ia_H) (v : Nat) (L : List (Nat × ia_E)) : Prop := ∀ q, q ∈ L → h.1 q.1 = some q.2 ∧ q.1 < h.2 ∧ q.1 ≠ v ∧ 142 ≤ q.1
def km (h : ia_H) (u v : Nat) (M : List (Nat × List Int32)) : Prop := ∀ q, q ∈ M → tt h u v q.1 q.2
def tk (U : List Int32) : List Int32 := if U.length ≤ 120 then U else []
/-- a refinement is being put together; h0: the heap at its begin; L: cells that were made, M: texts -/
def sxv (h0 : ia_H) (u v0 : Nat) (L : List (Nat × ia_E)) (M : List (Nat × List Int32)) (P : Prop) (U : List Int32) (h : ia_H) (v c2 : Nat) (tl : Int32) : Prop := dw h v c2 tl U ∧ fl P tl ∧ sx_fr h0 h (fun q => q = 69 ∨ q = 70 ∨ q = v0) ∧ (v = v0 ∨ h0.2 ≤ v) ∧ ks h0 h u v0 u v ∧ kl h v L ∧ km h u v M ∧ CV h u v ∧ u < h0.2
def sb (h0 : ia_H) (u v0 : Nat) (L : List (Nat × ia_E)) (M : List (Nat × List Int32)) (P : Prop) (U : List Int32) (h : ia_H) : Prop := ∃ v c2 tl, sxv h0 u v0 L M P U h v c2 tl
section SB
variable {G : ia_G} {h0 h : ia_H} {d u v0 : Nat} {L : List (Nat × ia_E)} {M : List (Nat × List Int32)} {P : Prop} {U : List Int32}
theorem sb.o (x : sb h0 u v0 L M P U h) : ∃ tl, h.1 69 = some (.inr (2, [.ref 70, .int tl])) := by
  obtain ⟨v, c2, tl, ⟨e, -⟩, -⟩ := x
  exact ⟨tl, e⟩
theorem sb.old (x : sb h0 u v0 L M P U h) {q : Nat} (h1 : q < h0.2) (h2 : q ≠ 69) (h3 : q ≠ 70) (h4 : q ≠ v0) : h.1 q = h0.1 q := by
  obtain ⟨v, c2, tl, -, -, f, -⟩ := x
  exact f.2 q h1 (fun z => by rcases z with z | z | z <;> contradiction)
theorem sb.cell (x : sb h0 u v0 L M P U h) {q : Nat} {e : ia_E} (hq : (q, e) ∈ L) : h.1 q = some e := by
  obtain ⟨v, c2, tl, -, -, -, -, -, k, -⟩ := x
  exact (k _ hq).1
theorem sb.sub {L' : List (Nat × ia_E)} {M' : List (Nat × List Int32)} (x : sb h0 u v0 L M P U h) (hl : ∀ q, q ∈ L' → q ∈ L) (hm : ∀ q, q ∈ M' → q ∈ M) : sb h0 u v0 L' M' P U h := by
  obtain ⟨v, c2, tl, a1, a2, a3, a4, a5, a6, a7, a8⟩ := x
  exact ⟨v, c2, tl, a1, a2, a3, a4, a5, fun q hq => a6 q (hl q hq), fun q hq => a7 q (hm q hq), a8⟩
/-- a step that writes 69, 70 and the builder's array alone -/
theorem sxv.go {h' : ia_H} {v c2 v' c2' : Nat} {tl tl' : Int32} {U' : List Int32} {P' : Prop} (x : sxv h0 u v0 L M P U h v c2 tl) (c1 : dw h' v' c2' tl' U') (c2 : fl P' tl') (c3 : sx_fr h h' (fun q => q = 69 ∨ q = 70 ∨ q = v)) (c4 : v' = v ∨ h.2 ≤ v') : sxv h0 u v0 L M P' U' h' v' c2' tl' := by
  obtain ⟨⟨d1, b, d2, d3, d4⟩, b2, b3, b4, b5, b6, b7, b8, b9⟩ := x
  have lt := d2.lt
  obtain ⟨n, f, ev⟩ := lt.2.2.1
  obtain ⟨fs, e70⟩ := lt.2.2.2
  have k : ks h h' u v u v' := by
    refine ks_fr c3 (fun q hq => ?_) (Or.inl rfl) c4
    rcases hq with rfl | rfl | rfl
    · right; right
      exact ⟨fun r w => (by rw [d1] at w; cases w), fun n f w => (by rw [d1] at w; cases w)⟩
    · right; right
      exact ⟨fun r w => (by rw [e70] at w; cases w), fun n f w => (by rw [e70] at w; cases w)⟩
    · exact Or.inr (Or.inl rfl)
  obtain ⟨w1, w2, w3, w4⟩ := b8
  have hle := b3.1
  refine ⟨c1, c2, ⟨Nat.le_trans hle c3.1, fun q hq hS => ?_⟩, by omega, fun a t z => k a t (b5 a t z), fun q hq => ?_, fun q hq => k _ _ (b7 q hq), ⟨w1, by omega, by omega, by have := c3.1; omega⟩, b9⟩
  · rw [c3.2 q (by omega) (fun z => ?_)]
    · exact b3.2 q hq hS
    · rcases z with z | z | z
      · exact hS (Or.inl z)
      · exact hS (Or.inr (Or.inl z))
      · rcases b4 with b4 | b4
        · exact hS (Or.inr (Or.inr (z.trans b4)))
        · omega
  · obtain ⟨q1, q2, q3, q4⟩ := b6 q hq
    exact ⟨(c3.2 _ q2 (fun z => by omega)).trans q1, by have := c3.1; omega, by omega, q4⟩
theorem sxv.more {v c2 a : Nat} {tl : Int32} {t : List Int32} (x : sxv h0 u v0 L M P U h v c2 tl) (ta : tt h u v a t) : sxv h0 u v0 L ((a, t) :: M) P U h v c2 tl := by
  obtain ⟨a1, a2, a3, a4, a5, a6, a7, a8⟩ := x
  refine ⟨a1, a2, a3, a4, a5, a6, fun q hq => ?_, a8⟩
  rcases List.mem_cons.mp hq with rfl | hq
  · exact ta
  · exact a7 q hq
theorem dw.len {v c2 : Nat} {tl : Int32} (x : dw h v c2 tl U) : ∃ b, sx_b h 70 v c2 b ∧ ((b.length ≤ 120 ∧ b = U) ∨ (120 < b.length ∧ 120 < U.length)) ∧ b.length ≤ 240 := by
  obtain ⟨-, b, h1, h2, h3⟩ := x
  refine ⟨b, h1, ?_, h3⟩
  rcases h2 with h2 | h2
  · subst h2
    by_cases z : b.length ≤ 120
    · exact Or.inl ⟨z, rfl⟩
    · exact Or.inr ⟨by omega, by omega⟩
  · exact Or.inr h2
theorem sb.start {tl : Int32} (e69 : h.1 69 = some (.inr (2, [.ref 70, .int tl]))) : ia_Cn pg G kk_D_startAnew d 0 0 [.ref 69] h (fun rv h' => rv = none ∧ h' = (ia_up h.1 69 (.inr (2, [.ref 70, .int 0])), h.2)) := by
  refine jd_met (ls := [.ref 69]) rfl rfl rfl ?_
  refine ia_go 2 rfl ?_
  refine ia_putf rfl e69 (by omega) rfl rfl rfl rfl ?_
  exact jd_rv0 rfl rfl rfl ⟨rfl, rfl⟩
theorem sb.put {a : Nat} {t : List Int32} (hd : 6 ≤ d) (x : sb h0 u v0 L M P U h) (ha : (a, t) ∈ M) (hl : t.length ≤ 120) : ia_Cn pg G kk_D_put d 1 480 [.ref 69, .ref a] h (fun rv h' => rv = some (.ref 69) ∧ sb h0 u v0 L M P (U ++ t) h') := by
  obtain ⟨v, c2, tl, x⟩ := x
  have b1 := x.1
  have b8 := x.2.2.2.2.2.2.2.1
  have hT : sx_t h a t := (x.2.2.2.2.2.2.1 _ ha).s
  have e69 := b1.1
  obtain ⟨b, hb, hc, h240⟩ := b1.len
  obtain ⟨m0, f0, hb0, -⟩ := id hb
  rcases hc with ⟨h120, rfl⟩ | ⟨h120, hU⟩
  ·
    refine jd_met (ls := [.ref 69, .ref a]) rfl rfl rfl ?_
    refine ia_go 1 rfl ?_
    refine ia_getf rfl e69 rfl ?_
    refine jd_cV 70 [] [] 0 0 (d' := d - 1) rfl rfl rfl hb0 rfl rfl (by omega) (by omega) (by omega) (jd_sbcount (by omega) hb0) ?_
    rintro rv h' ⟨rfl, hh⟩
    refine ia_go 2 rfl ?_
    subst hh
    rw [if_neg (by exact (nI_nlt (a := 120) h120 (by omega)))]
    refine ia_go 1 rfl ?_
    refine ia_getf rfl e69 rfl ?_
    refine ia_go 1 rfl ?_
    refine jd_cV 70 [.ref a] [] 1 480 (d' := d - 1) rfl rfl rfl hb0 rfl rfl (by omega) (by omega) (by omega) (jd_sappS (by omega) hb hT (by have : t.length ≤ 120 := hl; omega)) ?_
    rintro rv h1 ⟨rfl, v', c2', hB, hf, hs, hv⟩
    refine ia_go 2 rfl ?_
    refine jd_rv1 rfl rfl rfl trivial ⟨rfl, ?_⟩
    have e69' : h1.1 69 = some (.inr (2, [.ref 70, .int tl])) := (hf.2 69 (by have := b8.2.2.2; omega) (fun z => by have := b8.2.1; omega)).trans e69
    exact ⟨v', c2', tl, x.go ⟨e69', _, hB, Or.inl rfl, by rw [List.length_append]; omega⟩ x.2.1 (hf.mono (fun q z => Or.inr z)) hv⟩
  ·
    refine jd_met (ls := [.ref 69, .ref a]) rfl rfl rfl ?_
    refine ia_go 1 rfl ?_
    refine ia_getf rfl e69 rfl ?_
    refine jd_cV 70 [] [] 0 0 (d' := d - 1) rfl rfl rfl hb0 rfl rfl (by omega) (by omega) (by omega) (jd_sbcount (by omega) hb0) ?_
    rintro rv h' ⟨rfl, hh⟩
    refine ia_go 2 rfl ?_
    subst hh
    rw [if_pos (by exact (nI_lt (a := 120) h120 (by omega)))]
    refine ia_go 1 rfl ?_
    exact jd_rv1 rfl rfl rfl trivial ⟨rfl, v, c2, tl, ⟨e69, b, hb, Or.inr ⟨h120, by rw [List.length_append]; omega⟩, h240⟩, x.2⟩
theorem sxv.tail {v c2 a : Nat} {tl tl' z1 : Int32} (hd : 6 ≤ d) (x : sxv h0 u v0 L M P U h v c2 tl) (hz : (z1 = 1 ∧ U.length ≤ 120 ∧ tl' = tl) ∨ (z1 = 0 ∧ ¬ U.length ≤ 120 ∧ tl' = 1)) : ia_Sx pg G kk_D_take d 0 0 35 [.ref 69, .int z1, .ref a] [] h (fun rv h' => rv = some (.ref a) ∧ sb h0 u v0 L M (P ∧ U.length ≤ 120) [] h') := by
  have b1 := x.1
  have b2 := x.2.1
  obtain ⟨w1, w2, w3, w4⟩ := x.2.2.2.2.2.2.2.1
  have e69 := b1.1
  obtain ⟨-, b, hb, -, -⟩ := id b1
  have lt := hb.lt
  have zz : tl = 0 ∨ tl = 1 := b2.elim (fun q => Or.inl q.1) (fun q => Or.inr q.1)
  have zz' : tl' = 0 ∨ tl' = 1 := by
    rcases hz with ⟨-, -, rfl⟩ | ⟨-, -, rfl⟩
    · exact zz
    · exact Or.inr rfl
  have nw' : narrow .boolean (.int tl') = .int tl' ∧ fits .boolean (.int tl') = true := by rcases zz' with rfl | rfl <;> exact ⟨rfl, rfl⟩
  have fin : ia_Sx pg G kk_D_take d 0 0 52 [.ref 69, .int z1, .ref a] [.int tl', .ref 69] h (fun rv h' => rv = some (.ref a) ∧ sb h0 u v0 L M (P ∧ U.length ≤ 120) [] h') := by
    have n70 : (ia_up h.1 69 (.inr (2, [.ref 70, .int tl'])), h.2).1 70 = h.1 70 := rfl
    have nv : (ia_up h.1 69 (.inr (2, [.ref 70, .int tl'])), h.2).1 v = h.1 v := ia_up_ne (h := h.1) (a := 69) (q := v) (by omega)
    have n69 : (ia_up h.1 69 (.inr (2, [.ref 70, .int tl'])), h.2).1 69 = some (.inr (2, [.ref 70, .int tl'])) := rfl
    have hb2 := hb.keep n70 nv (Nat.le_refl _)
    obtain ⟨m2, f2, hb20, -⟩ := id hb2
    refine ia_putf rfl e69 (by omega) rfl rfl nw'.1 nw'.2 ?_
    refine ia_go 1 rfl ?_
    refine ia_getf rfl n69 rfl ?_
    refine ia_go 1 rfl ?_
    refine jd_cV 70 [.int 0] [] 0 0 (d' := d - 1) rfl rfl rfl hb20 rfl rfl (by omega) (by omega) (by omega) (jr_sset0 (by omega) hb2) ?_
    rintro rv h2 ⟨rfl, v', c2', hB, hf2, hs2, hv2⟩
    refine ia_go 1 rfl ?_
    refine jd_rv1 rfl rfl rfl trivial ⟨rfl, v', c2', tl', ?_⟩
    have f3 : sx_fr h h2 (fun q => q = 69 ∨ q = 70 ∨ q = v) := ⟨hf2.1, fun q hq hS => (hf2.2 q hq (fun z => hS (Or.inr (Or.inl z)))).trans (ia_up_ne (fun z => hS (Or.inl z)))⟩
    have e2 : h2.1 69 = some (.inr (2, [.ref 70, .int tl'])) := (hf2.2 69 (by show 69 < h.2; omega) (by omega)).trans rfl
    refine x.go ⟨e2, _, hB, Or.inl rfl, Nat.zero_le _⟩ ?_ f3 (hv2.imp (fun z => z.1) (fun z => z.1))
    rcases hz with ⟨-, hU, rfl⟩ | ⟨-, hU, rfl⟩
    · exact b2.imp (fun q => ⟨q.1, q.2, hU⟩) (fun q => ⟨q.1, fun w => q.2 w.1⟩)
    · exact Or.inr ⟨rfl, fun w => hU w.2⟩
  rcases hz with ⟨rfl, -, e⟩ | ⟨rfl, -, e⟩
  · rcases zz with z | z
    · subst e
      subst z
      refine ia_go 2 rfl ?_
      refine ia_getf rfl e69 rfl ?_
      refine ia_go 1 rfl ?_
      rw [if_neg (by exact (by decide))]
      refine ia_go 2 rfl ?_
      rw [if_pos (by exact (by decide))]
      refine ia_go 1 rfl ?_
      exact fin
    · subst e
      subst z
      refine ia_go 2 rfl ?_
      refine ia_getf rfl e69 rfl ?_
      refine ia_go 1 rfl ?_
      rw [if_pos (by exact (by decide))]
      refine ia_go 2 rfl ?_
      exact fin
  · subst e
    rcases zz with z | z
    · subst z
      refine ia_go 2 rfl ?_
      refine ia_getf rfl e69 rfl ?_
      refine ia_go 1 rfl ?_
      rw [if_neg (by exact (by decide))]
      refine ia_go 2 rfl ?_
      rw [if_neg (by exact (by decide))]
      refine ia_go 2 rfl ?_
      exact fin
    · subst z
      refine ia_go 2 rfl ?_
      refine ia_getf rfl e69 rfl ?_
      refine ia_go 1 rfl ?_
      rw [if_pos (by exact (by decide))]
      refine ia_go 2 rfl ?_
      exact fin
theorem sb.take (hd : 6 ≤ d) (x : sb h0 u v0 L M P U h) (h8 : (8, []) ∈ M) : ia_Cn pg G kk_D_take d 2 484 [.ref 69] h (fun rv h' => ∃ a, rv = some (.ref a) ∧ sb h0 u v0 L ((a, tk U) :: M) (P ∧ U.length ≤ 120) [] h') := by
  obtain ⟨v, c2, tl, x⟩ := x
  have b1 := x.1
  have e69 := b1.1
  obtain ⟨w1, w2, w3, w4⟩ := x.2.2.2.2.2.2.2.1
  have b9 := x.2.2.2.2.2.2.2.2
  have b3 := x.2.2.1
  obtain ⟨b, hb, hc, h240⟩ := b1.len
  obtain ⟨m0, f0, hb0, -⟩ := id hb
  have lt := hb.lt
  rcases hc with ⟨h120, rfl⟩ | ⟨h120, hU⟩
  ·
    refine jd_met (ls := [.ref 69, .retAddr 0, .retAddr 0]) rfl rfl rfl ?_
    refine ia_go 1 rfl ?_
    refine ia_getf rfl e69 rfl ?_
    refine jd_cV 70 [] [] 0 0 (d' := d - 1) rfl rfl rfl hb0 rfl rfl (by omega) (by omega) (by omega) (jd_sbcount (by omega) hb0) ?_
    rintro rv h' ⟨rfl, hh⟩
    refine ia_go 2 rfl ?_
    subst hh
    rw [if_neg (by exact (nI_nlt (a := 120) h120 (by omega)))]
    refine ia_go 3 rfl ?_
    dsimp only [ia_s1, ia_s2, ia_cl, ia_D, List.getElem?_cons_zero, List.getElem?_cons_succ, List.set_cons_zero, List.set_cons_succ]
    refine ia_go 2 rfl ?_
    rw [if_neg (by exact (by decide))]
    refine ia_go 1 rfl ?_
    refine ia_getf rfl e69 rfl ?_
    refine jd_cV 70 [] [] 2 484 (d' := d - 1) rfl rfl rfl hb0 rfl rfl (by omega) (by omega) (by omega) (jd_tos2 (by omega) hb w4) ?_
    rintro rv h1 ⟨rfl, hT, hf, hs⟩
    refine ia_go 2 rfl ?_
    dsimp only [ia_s1, ia_s2, ia_cl, ia_D, List.getElem?_cons_zero, List.getElem?_cons_succ, List.set_cons_zero, List.set_cons_succ]
    have ta := hT u v (by have := b3.1; omega) lt.2.1
    have hb1 := hb.keep (hf.2 70 (by omega) id) (hf.2 v lt.2.1 id) hf.1
    have x1 : sxv h0 u v0 L M P b h1 v c2 tl := x.go ⟨(hf.2 69 (by omega) id).trans e69, b, hb1, Or.inl rfl, h240⟩ x.2.1 (hf.mono (fun q z => False.elim z)) (Or.inl rfl)
    refine ia_Sx.mono ((x1.more (t := tk b) (by rw [show tk b = b from if_pos h120]; exact ta)).tail hd (Or.inl ⟨rfl, h120, rfl⟩)) (fun rv h' z => ⟨_, z.1, z.2⟩)
  · have ta := x.2.2.2.2.2.2.1 _ h8
    refine jd_met (ls := [.ref 69, .retAddr 0, .retAddr 0]) rfl rfl rfl ?_
    refine ia_go 1 rfl ?_
    refine ia_getf rfl e69 rfl ?_
    refine jd_cV 70 [] [] 0 0 (d' := d - 1) rfl rfl rfl hb0 rfl rfl (by omega) (by omega) (by omega) (jd_sbcount (by omega) hb0) ?_
    rintro rv h' ⟨rfl, hh⟩
    refine ia_go 2 rfl ?_
    subst hh
    rw [if_pos (by exact (nI_lt (a := 120) h120 (by omega)))]
    refine ia_go 2 rfl ?_
    dsimp only [ia_s1, ia_s2, ia_cl, ia_D, List.getElem?_cons_zero, List.getElem?_cons_succ, List.set_cons_zero, List.set_cons_succ]
    refine ia_go 2 rfl ?_
    rw [if_pos (by exact (by decide))]
    refine ia_ldcS rfl ?_
    refine ia_go 1 rfl ?_
    dsimp only [ia_s1, ia_s2, ia_cl, ia_D, List.getElem?_cons_zero, List.getElem?_cons_succ, List.set_cons_zero, List.set_cons_succ]
    refine ia_Sx.mono (ia_Sx.room ((x.more (a := 8) (t := tk U) (by rw [show tk U = [] from if_neg (by omega)]; exact ta)).tail hd (Or.inr ⟨rfl, by omega, rfl⟩)) (Nat.le_refl _) (Nat.zero_le _) (Nat.zero_le _)) (fun rv h' z => ⟨_, z.1, z.2⟩)
/-! a formula with a term for a variable -/
def gB (c : Nat) : Nat := if 240 ≤ c then 0 else if 119 ≤ c then 1 else if 59 ≤ c then 2 else if 29 ≤ c then 3 else if 14 ≤ c then 4 else if 6 ≤ c then 5 else if 2 ≤ c then 6 else 7
theorem gB_le (c : Nat) : gB c ≤ 7 := by unfold gB; repeat' split <;> try omega
theorem gB_nx {c c' : Nat} (h : 2 * c + 2 ≤ c') : gB c' ≤ gB c - 1 := by
  unfold gB
  repeat' split <;> try omega
theorem gB_0 {c : Nat} (h : c < 240) : 1 ≤ gB c := by
  unfold gB
  repeat' split <;> try omega
theorem sb.wloop {f e : Nat} {vc : Int32} {t et : List Int32} (hd : 6 ≤ d) (hf : (f, t) ∈ M) (he : (e, et) ∈ M) (tl120 : t.length ≤ 120) (el : et.length ≤ 120) : ∀ (r i : Nat), i + r = t.length → ∀ (h : ia_H) (v c2 : Nat) (tl : Int32) (z5 : Value), sxv h0 u v0 L M P (U ++ tx_r vc et (t.take i)) h v c2 tl → ia_Sx pg G kk_D_putWith d (gB c2) (480 * gB c2) 3 [.ref 69, .ref f, .int vc, .ref e, .int (nI i), z5] [] h (fun rv h' => rv = some (.ref 69) ∧ sb h0 u v0 L M P (U ++ tx_r vc et t) h') := by
  intro r
  induction r with
  | zero =>
    intro i hi h v c2 tl z5 x
    have hT : sx_t h f t := (x.2.2.2.2.2.2.1 _ hf).s
    obtain ⟨w, rr, g, ha, hw, hg, hch, hl, -⟩ := id hT
    rw [List.take_of_length_le (by omega)] at x
    refine ia_go 2 rfl ?_
    refine jd_cV f [] [.int (nI i)] 0 0 (d' := d - 1) rfl rfl rfl ha rfl rfl (by omega) (by omega) (by omega) (jd_slen (by omega) ha hw) ?_
    rintro rv h' ⟨rfl, hh⟩
    refine ia_go 1 rfl ?_
    subst hh
    rw [if_pos (by exact (nI_le (by omega) (by omega)))]
    refine ia_go 1 rfl ?_
    exact jd_rv1 rfl rfl rfl trivial ⟨rfl, v, c2, tl, x⟩
  | succ r ih =>
    intro i hi h v c2 tl z5 x
    have b1 := x.1
    have b8 := x.2.2.2.2.2.2.2.1
    have e69 := b1.1
    have hT : sx_t h f t := (x.2.2.2.2.2.2.1 _ hf).s
    have hE : sx_t h e et := (x.2.2.2.2.2.2.1 _ he).s
    obtain ⟨w, rr, g, ha, hw, hg, hch, hl, -⟩ := id hT
    have hil : i < t.length := by omega
    have hci : t[i]? = some t[i] := List.getElem?_eq_getElem hil
    have hcc := hch _ (List.getElem_mem hil)
    have htk : t.take (i + 1) = t.take i ++ [t[i]] := by rw [List.take_succ, hci]; rfl
    obtain ⟨b, hb, hc, h240⟩ := b1.len
    obtain ⟨m0, f0, hb0, -⟩ := id hb
    generalize t[i] = ch at hci hcc htk
    rcases hc with ⟨h120, eb⟩ | ⟨h120, hU⟩
    · have room : ∀ k, k ≤ 240 → ∃ mc ms, (k ≤ c2 ∨ (1 ≤ mc ∧ 480 ≤ ms)) ∧ mc ≤ gB c2 ∧ ms ≤ 480 * mc ∧ mc ≤ 1 ∧ (mc = 0 ∨ ¬ k ≤ c2) := by
        intro k hk
        by_cases z : k ≤ c2
        · exact ⟨0, 0, Or.inl z, Nat.zero_le _, Nat.zero_le _, Nat.zero_le _, Or.inl rfl⟩
        · exact ⟨1, 480, Or.inr ⟨Nat.le_refl _, Nat.le_refl _⟩, gB_0 (by omega), by omega, Nat.le_refl _, Or.inr z⟩
      have nxt : ∀ (h1 : ia_H) (v' c2' mc ms : Nat) (T : List Int32), sx_b h1 70 v' c2' (b ++ T) → sx_fr h h1 (fun q => q = 70 ∨ q = v) → ((v' = v ∧ c2' = c2) ∨ (h.2 ≤ v' ∧ 2 * c2 + 2 ≤ c2')) → mc ≤ gB c2 → ms ≤ 480 * mc → mc ≤ 1 → (mc = 0 ∨ ¬ (b ++ T).length ≤ c2) → (b ++ T).length ≤ 240 → tx_r vc et (t.take (i + 1)) = tx_r vc et (t.take i) ++ T → ia_Sx pg G kk_D_putWith d (gB c2 - mc) (480 * gB c2 - ms) 60 [.ref 69, .ref f, .int vc, .ref e, .int (nI i), .int ch] [] h1 (fun rv h' => rv = some (.ref 69) ∧ sb h0 u v0 L M P (U ++ tx_r vc et t) h') := by
        intro h1 v' c2' mc ms T hB hfr hv m1 m2 m3 m4 h24 hT'
        have e69' : h1.1 69 = some (.inr (2, [.ref 70, .int tl])) := (hfr.2 69 (by have := b8.2.2.2; omega) (fun z => by have := b8.2.1; omega)).trans e69
        have x1 : sxv h0 u v0 L M P (U ++ tx_r vc et (t.take (i + 1))) h1 v' c2' tl := x.go ⟨e69', b ++ T, hB, Or.inl (by rw [hT', eb, List.append_assoc]), h24⟩ x.2.1 (hfr.mono (fun q z => Or.inr z)) (hv.imp (fun z => z.1) (fun z => z.1))
        have gg : gB c2' ≤ gB c2 - mc := by
          rcases hv with ⟨-, rfl⟩ | ⟨-, z⟩
          · rcases m4 with z | z
            · omega
            · obtain ⟨m, f, -, -, -, -, q, -⟩ := hB
              exact absurd q z
          · have := gB_nx z; omega
        refine ia_go 1 rfl ?_
        dsimp only [ia_s1, ia_s2, ia_cl, ia_D, List.getElem?_cons_zero, List.getElem?_cons_succ, List.set_cons_zero, List.set_cons_succ]
        refine ia_go 1 rfl ?_
        rw [show nI i + Int32.ofInt 1 = nI (i + 1) from nI_1 i]
        exact ia_Sx.room (ih (i + 1) (by omega) h1 v' c2' tl _ x1) (Nat.le_refl _) gg (by omega)
      by_cases hv : ch = vc
      · obtain ⟨mc, ms, r1, r2, r3, r4, r5⟩ := room (b.length + et.length) (by omega)
        refine ia_go 2 rfl ?_
        refine jd_cV f [] [.int (nI i)] 0 0 (d' := d - 1) rfl rfl rfl ha rfl rfl (by omega) (by omega) (by omega) (jd_slen (by omega) ha hw) ?_
        rintro rv h' ⟨rfl, hh⟩
        refine ia_go 1 rfl ?_
        subst hh
        rw [if_neg (by exact (nI_ge hil (by omega)))]
        refine ia_go 1 rfl ?_
        refine ia_getf rfl e69 rfl ?_
        refine jd_cV 70 [] [] 0 0 (d' := d - 1) rfl rfl rfl hb0 rfl rfl (by omega) (by omega) (by omega) (jd_sbcount (by omega) hb0) ?_
        rintro rv h' ⟨rfl, hh⟩
        refine ia_go 2 rfl ?_
        subst hh
        rw [if_neg (by exact (nI_nlt (a := 120) h120 (by omega)))]
        refine ia_go 2 rfl ?_
        refine jd_cV f [.int (nI i)] [] 0 0 (d' := d - 1) rfl rfl rfl ha rfl rfl (by omega) (by omega) (by omega) (jd_char (by omega) ha hw (by omega) hil (hg i ch hci) hcc.1 hcc.2) ?_
        rintro rv h' ⟨rfl, hh⟩
        refine ia_go 1 rfl ?_
        dsimp only [ia_s1, ia_s2, ia_cl, ia_D, List.getElem?_cons_zero, List.getElem?_cons_succ, List.set_cons_zero, List.set_cons_succ]
        refine ia_go 3 rfl ?_
        subst hh
        rw [if_neg (by exact (fun z => z hv))]
        refine ia_go 1 rfl ?_
        refine ia_getf rfl e69 rfl ?_
        refine ia_go 1 rfl ?_
        refine jd_cV 70 [.ref e] [] mc ms (d' := d - 1) rfl rfl rfl hb0 rfl rfl (by omega) (by omega) (by omega) (jr_sappS (by omega) hb hE (by omega) r1) ?_
        rintro rv h1 ⟨rfl, v', c2', hB, hfr, hs, hvv⟩
        refine ia_go 2 rfl ?_
        refine ia_Sx.room (nxt h1 v' c2' mc ms et hB hfr hvv r2 r3 r4 (by rw [List.length_append]; exact r5) (by rw [List.length_append]; omega) ?_) (Nat.le_refl _) (by omega) (by omega)
        rw [htk, tx_r_app]
        congr 1
        show (if ch = vc then et ++ [] else [ch]) = et
        rw [if_pos hv, List.append_nil]
      · obtain ⟨mc, ms, r1, r2, r3, r4, r5⟩ := room (b.length + 1) (by omega)
        refine ia_go 2 rfl ?_
        refine jd_cV f [] [.int (nI i)] 0 0 (d' := d - 1) rfl rfl rfl ha rfl rfl (by omega) (by omega) (by omega) (jd_slen (by omega) ha hw) ?_
        rintro rv h' ⟨rfl, hh⟩
        refine ia_go 1 rfl ?_
        subst hh
        rw [if_neg (by exact (nI_ge hil (by omega)))]
        refine ia_go 1 rfl ?_
        refine ia_getf rfl e69 rfl ?_
        refine jd_cV 70 [] [] 0 0 (d' := d - 1) rfl rfl rfl hb0 rfl rfl (by omega) (by omega) (by omega) (jd_sbcount (by omega) hb0) ?_
        rintro rv h' ⟨rfl, hh⟩
        refine ia_go 2 rfl ?_
        subst hh
        rw [if_neg (by exact (nI_nlt (a := 120) h120 (by omega)))]
        refine ia_go 2 rfl ?_
        refine jd_cV f [.int (nI i)] [] 0 0 (d' := d - 1) rfl rfl rfl ha rfl rfl (by omega) (by omega) (by omega) (jd_char (by omega) ha hw (by omega) hil (hg i ch hci) hcc.1 hcc.2) ?_
        rintro rv h' ⟨rfl, hh⟩
        refine ia_go 1 rfl ?_
        dsimp only [ia_s1, ia_s2, ia_cl, ia_D, List.getElem?_cons_zero, List.getElem?_cons_succ, List.set_cons_zero, List.set_cons_succ]
        refine ia_go 3 rfl ?_
        subst hh
        rw [if_pos (by exact hv)]
        refine ia_go 1 rfl ?_
        refine ia_getf rfl e69 rfl ?_
        refine ia_go 1 rfl ?_
        refine jd_cV 70 [.int ch] [] mc ms (d' := d - 1) rfl rfl rfl hb0 rfl rfl (by omega) (by omega) (by omega) (jr_sappC (by omega) hb (by omega) r1 hcc.1 hcc.2) ?_
        rintro rv h1 ⟨rfl, v', c2', hB, hfr, hs, hvv⟩
        refine ia_go 1 rfl ?_
        refine ia_Sx.room (nxt h1 v' c2' mc ms [ch] hB hfr hvv r2 r3 r4 (by rw [List.length_append]; exact r5) (by rw [List.length_append]; show b.length + 1 ≤ 240; omega) ?_) (Nat.le_refl _) (by omega) (by omega)
        rw [htk, tx_r_app]
        congr 1
        show (if ch = vc then et ++ [] else [ch]) = [ch]
        rw [if_neg hv]
    ·
      refine ia_go 2 rfl ?_
      refine jd_cV f [] [.int (nI i)] 0 0 (d' := d - 1) rfl rfl rfl ha rfl rfl (by omega) (by omega) (by omega) (jd_slen (by omega) ha hw) ?_
      rintro rv h' ⟨rfl, hh⟩
      refine ia_go 1 rfl ?_
      subst hh
      rw [if_neg (by exact (nI_ge hil (by omega)))]
      refine ia_go 1 rfl ?_
      refine ia_getf rfl e69 rfl ?_
      refine jd_cV 70 [] [] 0 0 (d' := d - 1) rfl rfl rfl hb0 rfl rfl (by omega) (by omega) (by omega) (jd_sbcount (by omega) hb0) ?_
      rintro rv h' ⟨rfl, hh⟩
      refine ia_go 2 rfl ?_
      subst hh
      rw [if_pos (by exact (nI_lt (a := 120) h120 (by omega)))]
      refine ia_go 1 rfl ?_
      refine jd_rv1 rfl rfl rfl trivial ⟨rfl, v, c2, tl, ⟨e69, b, hb, Or.inr ⟨h120, ?_⟩, h240⟩, x.2⟩
      have := tx_r_app vc et (t.take i) (t.drop i)
      rw [List.take_append_drop] at this
      rw [this]
      rw [List.length_append] at hU ⊢
      rw [List.length_append]
      omega
theorem sb.wth {f e : Nat} {vc : Int32} {t et : List Int32} (hd : 6 ≤ d) (x : sb h0 u v0 L M P U h) (hf : (f, t) ∈ M) (he : (e, et) ∈ M) (tl120 : t.length ≤ 120) (el : et.length ≤ 120) : ia_Cn pg G kk_D_putWith d 7 3360 [.ref 69, .ref f, .int vc, .ref e] h (fun rv h' => rv = some (.ref 69) ∧ sb h0 u v0 L M P (U ++ tx_r vc et t) h') := by
  obtain ⟨v, c2, tl, x⟩ := x
  have := gB_le c2
  refine jd_met (ls := [.ref 69, .ref f, .int vc, .ref e, .retAddr 0, .retAddr 0]) rfl rfl rfl ?_
  refine ia_go 2 rfl ?_
  dsimp only [ia_s1, ia_s2, ia_cl, ia_D, List.getElem?_cons_zero, List.getElem?_cons_succ, List.set_cons_zero, List.set_cons_succ]
  exact ia_Sx.room (sb.wloop hd hf he tl120 el t.length 0 (by omega) h v c2 tl _ (by show sxv h0 u v0 L M P (U ++ tx_r vc et (t.take 0)) h v c2 tl; rw [List.take_zero]; show sxv h0 u v0 L M P (U ++ []) h v c2 tl; rw [List.append_nil]; exact x)) (Nat.le_refl _) (by omega) (by omega)
/-! cells that are made, and written again -/
theorem sb.new {h' : ia_H} {E : ia_E} (x : sb h0 u v0 L M P U h) (e2 : h'.2 = h.2 + 1) (e1 : h'.1 h.2 = some E) (ek : ∀ q, q ≠ h.2 → h'.1 q = h.1 q) : sb h0 u v0 ((h.2, E) :: L) M P U h' := by
  obtain ⟨v, c2, tl, x⟩ := x
  obtain ⟨d1, b, d2, d3, d4⟩ := id x.1
  have lt := d2.lt
  have b8 := x.2.2.2.2.2.2.2.1
  have y := x.go (h' := h') ⟨(ek 69 (by have := b8.2.2.2; omega)).trans d1, b, d2.keep (ek 70 (by omega)) (ek v (by omega)) (by omega), d3, d4⟩ x.2.1 ⟨by omega, fun q hq _ => ek q (by omega)⟩ (Or.inl rfl)
  obtain ⟨a1, a2, a3, a4, a5, a6, a7, a8⟩ := y
  refine ⟨v, c2, tl, a1, a2, a3, a4, a5, fun q hq => ?_, a7, a8⟩
  rcases List.mem_cons.mp hq with rfl | hq
  · exact ⟨e1, by show h.2 < h'.2; omega, by show h.2 ≠ v; omega, b8.2.2.2⟩
  · exact a6 q hq
theorem sb.set {h' : ia_H} {s ci : Nat} {fs fs' : List Value} (x : sb h0 u v0 ((s, .inr (ci, fs)) :: L) M P U h) (o : o1 h h' s (.inr (ci, fs'))) (hci : ci ≠ 10) (hs0 : h0.2 ≤ s) (hL : ∀ q, q ∈ L → q.1 ≠ s) : sb h0 u v0 ((s, .inr (ci, fs')) :: L) M P U h' := by
  obtain ⟨v, c2, tl, ⟨d1, b, d2, d3, d4⟩, b2, b3, b4, b5, b6, b7, b8, b9⟩ := x
  have hs := b6 _ List.mem_cons_self
  have es : h.1 s = some (.inr (ci, fs)) := hs.1
  have s142 : 142 ≤ s := hs.2.2.2
  have sv : s ≠ v := hs.2.2.1
  have sz : h'.2 = h.2 := o.1
  have z : ∀ q, q ≠ s → h'.1 q = h.1 q := o.2.2
  have k : ks h h' u v u v := by
    refine ks_fr (S := fun q => q = s) ⟨by omega, fun q _ hq => z q hq⟩ (fun q hq => ?_) (Or.inl rfl) (Or.inl rfl)
    right; right
    rw [hq]
    refine ⟨fun r w => ?_, fun n f w => (by rw [es] at w; cases w)⟩
    rw [es] at w
    exact hci (congrArg Prod.fst (Sum.inr.inj (Option.some.inj w)))
  obtain ⟨w1, w2, w3, w4⟩ := b8
  refine ⟨v, c2, tl, ⟨(z 69 (by omega)).trans d1, b, d2.keep (z 70 (by omega)) (z v (Ne.symm sv)) (by omega), d3, d4⟩, b2, ⟨by have := b3.1; omega, fun q hq hS => (z q (by omega)).trans (b3.2 q hq hS)⟩, b4, fun a t w => k a t (b5 a t w), fun q hq => ?_, fun q hq => k _ _ (b7 q hq), ⟨w1, w2, w3, by omega⟩, b9⟩
  rcases List.mem_cons.mp hq with rfl | hq
  · exact ⟨o.2.1, by show s < h'.2; rw [sz]; exact hs.2.1, hs.2.2⟩
  · have := b6 q (List.mem_cons_of_mem _ hq)
    exact ⟨(z _ (hL q hq)).trans this.1, by rw [sz]; exact this.2.1, this.2.2⟩
theorem sb.swap {a b : Nat × ia_E} (x : sb h0 u v0 (a :: b :: L) M P U h) : sb h0 u v0 (b :: a :: L) M P U h := x.sub (fun q hq => by
  rcases List.mem_cons.mp hq with z | hq
  · exact List.mem_cons.mpr (Or.inr (List.mem_cons.mpr (Or.inl z)))
  · rcases List.mem_cons.mp hq with z | hq
    · exact List.mem_cons.mpr (Or.inl z)
    · exact List.mem_cons_of_mem _ (List.mem_cons_of_mem _ hq)) (fun _ hq => hq)
end SB
