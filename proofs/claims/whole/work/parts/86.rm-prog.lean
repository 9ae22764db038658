/-! THE REFERENCE, 27: isProgram, program, instruction. -/
section PB
variable {G : ia_G} {h0 h : ia_H} {d : Nat} {F : Nat → Nat → Int32} {S : Nat → Int32} {LW K1 K2 V r : Nat → Nat}
/-- there is a program -/
def isp (F : Nat → Nat → Int32) : Prop := F 2 1 ≠ 0 ∧ os F 16 ≤ 0
def pgm (LW K1 K2 V : Nat → Nat) : List (Nat × Nat × Nat) := cd LW K1 K2 V 16 1 0 ++ [(4, 0, 0)]
theorem rm_isProgram (hd : 3 ≤ d) (hm : rm h0 F S) (hk : F 2 1 ≠ 0 → kd F LW K1 K2 V r) (hlen : F 2 1 ≠ 0 → (cd LW K1 K2 V 16 1 0).length ≤ 32) : ia_Cn pg G kk_M_isProgram d 0 0 [.ref 117] h0 (fun rv h' => (¬ isp F ∧ rv = some (.int 0) ∧ h' = h0) ∨ (isp F ∧ rv = some (.int 1) ∧ ∃ F', pb h0 h' F S F' (pgm LW K1 K2 V).length 0 ∧ cr F' 0 (pgm LW K1 K2 V))) := by
  have hX := hm.X
  by_cases h1 : F 2 1 = 0
  ·
    refine jd_met (ls := [.ref 117]) rfl rfl rfl ?_
    refine ia_go 1 rfl ?_
    refine ia_getf rfl hm.1 rfl ?_
    refine ia_go 1 rfl ?_
    refine rm_zld (K := 2) (i := 1) rfl hX (by decide) rfl (by decide) (by decide) ?_
    refine ia_go 1 rfl ?_
    rw [if_pos h1]
    refine ia_go 1 rfl ?_
    exact jd_rv1 rfl rfl rfl rfl (Or.inl ⟨fun z => z.1 h1, rfl, rfl⟩)
  have hl := hlen h1
  have hkd := hk h1
  by_cases h2 : os F 16 ≤ 0
  case neg =>
    refine jd_met (ls := [.ref 117]) rfl rfl rfl ?_
    refine ia_go 1 rfl ?_
    refine ia_getf rfl hm.1 rfl ?_
    refine ia_go 1 rfl ?_
    refine rm_zld (K := 2) (i := 1) rfl hX (by decide) rfl (by decide) (by decide) ?_
    refine ia_go 1 rfl ?_
    rw [if_neg h1]
    refine ia_go 1 rfl ?_
    refine jd_cV 117 [] [] 0 0 (d' := d - 1) rfl rfl rfl hm.1 rfl rfl (by omega) (by omega) (by omega) (rm_open (by omega) hm) ?_
    rintro rv h9 ⟨rfl, hh⟩
    subst hh
    refine ia_go 1 rfl ?_
    rw [if_neg h2]
    refine ia_go 1 rfl ?_
    exact jd_rv1 rfl rfl rfl rfl (Or.inl ⟨fun z => h2 z.2, rfl, rfl⟩)
  refine jd_met (ls := [.ref 117]) rfl rfl rfl ?_
  refine ia_go 1 rfl ?_
  refine ia_getf rfl hm.1 rfl ?_
  refine ia_go 1 rfl ?_
  refine rm_zld (K := 2) (i := 1) rfl hX (by decide) rfl (by decide) (by decide) ?_
  refine ia_go 1 rfl ?_
  rw [if_neg h1]
  refine ia_go 1 rfl ?_
  refine jd_cV 117 [] [] 0 0 (d' := d - 1) rfl rfl rfl hm.1 rfl rfl (by omega) (by omega) (by omega) (rm_open (by omega) hm) ?_
  rintro rv h9 ⟨rfl, hh⟩
  subst hh
  refine ia_go 1 rfl ?_
  rw [if_pos h2]
  refine ia_go 2 rfl ?_
  refine rm_put (sk := 4) rfl hX rfl rfl (fun h1' hX1 => ?_)
  refine ia_go 2 rfl ?_
  refine rm_put (sk := 5) rfl hX1 rfl rfl (fun h1' hX1 => ?_)
  have hp : pb h9 h1' F S F 0 0 := ⟨_, hX1, fun _ _ _ => rfl, rfl, rfl, fun k k1 k2 => by unfold rm_s; rw [if_neg k2, if_neg k1]⟩
  refine ia_go 3 rfl ?_
  refine jd_cV 117 [.int 1, .int 0] [] 0 0 (d' := d - 1) rfl rfl rfl hX1.1.1 rfl rfl (by omega) (by omega) (by omega) (pb_later hp (by omega)) ?_
  rintro rv h2' ⟨rfl, hp2⟩
  refine pl_main (by omega) hkd 16 1 0 0 _ h2' hp2 lt_at.1 (by omega) (by omega) h1 (by omega) (by omega) (by omega) (fun h3 F3 hp3 hc3 hF3 => ?_)
  rw [Nat.zero_add] at hp3
  have hp4 := hp3
  obtain ⟨S1, g1, g2, g3, g4, g5⟩ := hp3
  refine ia_go 1 rfl ?_
  refine ia_getf rfl g1.1.1 rfl ?_
  refine ia_go 1 rfl ?_
  rw [g4]
  rw [if_pos (by decide)]
  refine ia_go 4 rfl ?_
  refine jd_cV 117 [.int 4, .int 0, .int 0] [] 0 0 (d' := d - 1) rfl rfl rfl g1.1.1 rfl rfl (by omega) (by omega) (by omega) (pb_emit hp4 (by omega)) ?_
  rintro rv h5 ⟨rfl, hp5⟩
  refine ia_go 2 rfl ?_
  refine jd_rv1 rfl rfl rfl rfl (Or.inr ⟨⟨h1, h2⟩, rfl, em F3 (cd LW K1 K2 V 16 1 0).length 4 0 0, ?_, ?_⟩)
  · have : (pgm LW K1 K2 V).length = (cd LW K1 K2 V 16 1 0).length + 1 := by unfold pgm; simp
    rw [this]; exact hp5
  · refine cr_app (hc3.keep (fun q j q1 q2 q3 q4 => em_off (by omega))) ?_
    rw [Nat.zero_add, cr_cons]
    exact ⟨em_at, cr_nil⟩
theorem rm_program (hd : 4 ≤ d) (hm : rm h0 F S) (hk : F 2 1 ≠ 0 → kd F LW K1 K2 V r) (hlen : F 2 1 ≠ 0 → (cd LW K1 K2 V 16 1 0).length ≤ 32) : ia_Cn pg G kk_M_program d 0 0 [.ref 117] h0 (fun rv h' => (¬ isp F ∧ rv = some (.int (-2)) ∧ h' = h0) ∨ (isp F ∧ rv = some (.int (nI (pgm LW K1 K2 V).length)) ∧ ∃ F', pb h0 h' F S F' (pgm LW K1 K2 V).length 0 ∧ cr F' 0 (pgm LW K1 K2 V))) := by
  refine jd_met (ls := [.ref 117]) rfl rfl rfl ?_
  refine ia_go 1 rfl ?_
  refine jd_cV 117 [] [] 0 0 (d' := d - 1) rfl rfl rfl hm.1 rfl rfl (by omega) (by omega) (by omega) (rm_isProgram (by omega) hm hk hlen) ?_
  rintro rv h2 (⟨hno, rfl, hh⟩ | ⟨hyes, rfl, F', hp, hc⟩)
  · subst hh
    refine ia_go 1 rfl ?_
    rw [if_pos (by decide)]
    refine ia_go 1 rfl ?_
    exact jd_rv1 rfl rfl rfl trivial (Or.inl ⟨hno, rfl, rfl⟩)
  · have hp0 := hp
    obtain ⟨S1, g1, g2, g3, g4, g5⟩ := hp
    refine ia_go 1 rfl ?_
    rw [if_neg (by decide)]
    refine ia_go 1 rfl ?_
    refine ia_getf rfl g1.1.1 rfl ?_
    refine ia_go 1 rfl ?_
    rw [g3]
    exact jd_rv1 rfl rfl rfl trivial (Or.inr ⟨hyes, rfl, F', hp0, hc⟩)
/-- what instruction answers -/
def inv (C : List (Nat × Nat × Nat)) (x y : Int32) (v : Int32) : Prop := ∃ i q, x = nI i ∧ C[i]? = some q ∧ ((y = 0 ∧ v = nI q.1) ∨ (y = 1 ∧ v = nI q.2.1))
theorem rm_instruction {x y : Int32} (hd : 4 ≤ d) (hm : rm h0 F S) (hk : F 2 1 ≠ 0 → kd F LW K1 K2 V r) (hlen : F 2 1 ≠ 0 → (cd LW K1 K2 V 16 1 0).length ≤ 32) : ia_Cn pg G kk_M_instruction d 0 0 [.ref 117, .int x, .int y] h0 (fun rv h' => (¬ isp F ∧ rv = some (.int (-2)) ∧ h' = h0) ∨ (isp F ∧ (((¬ ∃ v, inv (pgm LW K1 K2 V) x y v) ∧ rv = some (.int (-1))) ∨ ∃ v, inv (pgm LW K1 K2 V) x y v ∧ rv = some (.int v)) ∧ ∃ F', pb h0 h' F S F' (pgm LW K1 K2 V).length 0 ∧ cr F' 0 (pgm LW K1 K2 V))) := by
  refine jd_met (ls := [.ref 117, .int x, .int y]) rfl rfl rfl ?_
  refine ia_go 1 rfl ?_
  refine jd_cV 117 [] [] 0 0 (d' := d - 1) rfl rfl rfl hm.1 rfl rfl (by omega) (by omega) (by omega) (rm_isProgram (by omega) hm hk hlen) ?_
  rintro rv h2 (⟨hno, rfl, hh⟩ | ⟨hyes, rfl, F', hp, hc⟩)
  · subst hh
    refine ia_go 1 rfl ?_
    rw [if_neg (fun z => z rfl)]
    refine ia_go 1 rfl ?_
    exact jd_rv1 rfl rfl rfl trivial (Or.inl ⟨hno, rfl, rfl⟩)
  have hl := hlen hyes.1
  have hpl : (pgm LW K1 K2 V).length = (cd LW K1 K2 V 16 1 0).length + 1 := by unfold pgm; simp
  have hp0 := hp
  obtain ⟨S1, g1, g2, g3, g4, g5⟩ := hp
  generalize hC : pgm LW K1 K2 V = C at *
  by_cases x0 : x < 0
  ·
    refine ia_go 1 rfl ?_
    rw [if_pos (by decide)]
    refine ia_go 2 rfl ?_
    rw [if_pos x0]
    refine ia_go 1 rfl ?_
    exact jd_rv1 rfl rfl rfl trivial (Or.inr ⟨hyes, Or.inl ⟨by rintro ⟨v, i, q, rfl, hi, -⟩; exact absurd x0 (nI_pos (by have := (List.getElem?_eq_some_iff.mp hi).1; omega)), rfl⟩, F', hp0, hc⟩)
  by_cases xl : nI C.length ≤ x
  ·
    refine ia_go 1 rfl ?_
    rw [if_pos (by decide)]
    refine ia_go 2 rfl ?_
    rw [if_neg x0]
    refine ia_go 2 rfl ?_
    refine ia_getf rfl g1.1.1 rfl ?_
    refine ia_go 1 rfl ?_
    rw [g3]
    rw [if_pos xl]
    refine ia_go 1 rfl ?_
    exact jd_rv1 rfl rfl rfl trivial (Or.inr ⟨hyes, Or.inl ⟨by rintro ⟨v, i, q, rfl, hi, -⟩; exact absurd xl (nI_ge (List.getElem?_eq_some_iff.mp hi).1 (by omega)), rfl⟩, F', hp0, hc⟩)
  obtain ⟨i, hi, rfl⟩ := nI_of x0
  have hiC : i < C.length := by
    rcases Nat.lt_or_ge i C.length with e | e
    · exact e
    · exact absurd (nI_le e hi) xl
  have hcc := hc i _ (List.getElem?_eq_getElem hiC)
  rw [Nat.zero_add] at hcc
  by_cases y0 : y < 0
  ·
    refine ia_go 1 rfl ?_
    rw [if_pos (by decide)]
    refine ia_go 2 rfl ?_
    rw [if_neg x0]
    refine ia_go 2 rfl ?_
    refine ia_getf rfl g1.1.1 rfl ?_
    refine ia_go 1 rfl ?_
    rw [g3]
    rw [if_neg xl]
    refine ia_go 2 rfl ?_
    rw [if_pos y0]
    refine ia_go 1 rfl ?_
    exact jd_rv1 rfl rfl rfl trivial (Or.inr ⟨hyes, Or.inl ⟨by rintro ⟨v, j, q, -, -, (⟨rfl, -⟩ | ⟨rfl, -⟩)⟩; exact absurd y0 (by decide); exact absurd y0 (by decide), rfl⟩, F', hp0, hc⟩)
  by_cases y1 : y ≤ 1
  case neg =>
    refine ia_go 1 rfl ?_
    rw [if_pos (by decide)]
    refine ia_go 2 rfl ?_
    rw [if_neg x0]
    refine ia_go 2 rfl ?_
    refine ia_getf rfl g1.1.1 rfl ?_
    refine ia_go 1 rfl ?_
    rw [g3]
    rw [if_neg xl]
    refine ia_go 2 rfl ?_
    rw [if_neg y0]
    refine ia_go 3 rfl ?_
    rw [if_neg y1]
    refine ia_go 1 rfl ?_
    exact jd_rv1 rfl rfl rfl trivial (Or.inr ⟨hyes, Or.inl ⟨by rintro ⟨v, j, q, -, -, (⟨rfl, -⟩ | ⟨rfl, -⟩)⟩; exact y1 (by decide); exact y1 (by decide), rfl⟩, F', hp0, hc⟩)
  obtain ⟨w, hw, rfl⟩ := nI_of2 (M := 1) (n := 1) (by decide) y0 y1
  have hws : w = 0 ∨ w = 1 := by omega
  rcases hws with rfl | rfl
  ·
    refine ia_go 1 rfl ?_
    rw [if_pos (by decide)]
    refine ia_go 2 rfl ?_
    rw [if_neg x0]
    refine ia_go 2 rfl ?_
    refine ia_getf rfl g1.1.1 rfl ?_
    refine ia_go 1 rfl ?_
    rw [g3]
    rw [if_neg xl]
    refine ia_go 2 rfl ?_
    rw [if_neg y0]
    refine ia_go 3 rfl ?_
    rw [if_pos y1]
    refine ia_go 2 rfl ?_
    rw [if_neg (fun z => z rfl)]
    refine ia_go 1 rfl ?_
    refine ia_getf rfl g1.1.1 rfl ?_
    refine ia_go 1 rfl ?_
    refine rm_ld (K := 18) rfl g1 (by decide) rfl (show i < 80 by omega) (by decide) ?_
    rw [hcc.1]
    refine ia_go 1 rfl ?_
    exact jd_rv1 rfl rfl rfl trivial (Or.inr ⟨hyes, Or.inr ⟨_, ⟨i, _, rfl, List.getElem?_eq_getElem hiC, Or.inl ⟨rfl, rfl⟩⟩, rfl⟩, F', hp0, hc⟩)
  ·
    refine ia_go 1 rfl ?_
    rw [if_pos (by decide)]
    refine ia_go 2 rfl ?_
    rw [if_neg x0]
    refine ia_go 2 rfl ?_
    refine ia_getf rfl g1.1.1 rfl ?_
    refine ia_go 1 rfl ?_
    rw [g3]
    rw [if_neg xl]
    refine ia_go 2 rfl ?_
    rw [if_neg y0]
    refine ia_go 3 rfl ?_
    rw [if_pos y1]
    refine ia_go 2 rfl ?_
    rw [if_pos (by decide)]
    refine ia_go 1 rfl ?_
    refine ia_getf rfl g1.1.1 rfl ?_
    refine ia_go 1 rfl ?_
    refine rm_ld (K := 19) rfl g1 (by decide) rfl (show i < 80 by omega) (by decide) ?_
    rw [hcc.2.1]
    exact jd_rv1 rfl rfl rfl trivial (Or.inr ⟨hyes, Or.inr ⟨_, ⟨i, _, rfl, List.getElem?_eq_getElem hiC, Or.inr ⟨rfl, rfl⟩⟩, rfl⟩, F', hp0, hc⟩)
end PB
