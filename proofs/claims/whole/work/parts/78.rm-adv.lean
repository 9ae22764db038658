/-! THE REFERENCE, 19: has, advance: the states one after another. -/
theorem rm_hasloop {G : ia_G} {h0 : ia_H} {d p n : Nat} {c : Int32} {F : Nat → Nat → Int32} {S : Nat → Int32} {t : List Int32} (hm : rm h0 F S) (hl : t.length = n) (hp : p + n ≤ 10600) (ht : tm_t F p t) : ∀ (r m : Nat), m + r = n → ∀ b : Int32, bn (c ∈ t.take m) b → ia_Sx pg G kk_M_has d 0 0 6 [.ref 117, .int (nI p), .int (nI n), .int c, .int b, .int (nI m)] [] h0 (fun rv h' => h' = h0 ∧ ∃ b, rv = some (.int b) ∧ bn (c ∈ t) b) := by
  have hX := hm.X
  intro r
  induction r with
  | zero =>
    intro m hm1 b hb
    rw [List.take_of_length_le (by omega)] at hb
    refine ia_go 3 rfl ?_
    rw [if_pos (show nI n ≤ nI m from nI_le (by omega) (by omega))]
    refine ia_go 1 rfl ?_
    refine jd_rv1 rfl rfl rfl ?_ ⟨rfl, b, rfl, hb⟩
    rcases hb with ⟨rfl, -⟩ | ⟨rfl, -⟩ <;> rfl
  | succ r ih =>
    intro m hm1 b hb
    have hmt : m < t.length := by omega
    have hc : F 0 (p + m) = t[m] := ht m _ (List.getElem?_eq_getElem hmt)
    have nxt : ∀ b' : Int32, bn (c ∈ t.take (m + 1)) b' → ia_Sx pg G kk_M_has d 0 0 35 [.ref 117, .int (nI p), .int (nI n), .int c, .int b, .int (nI m)] [.int b'] h0 (fun rv h' => h' = h0 ∧ ∃ b, rv = some (.int b) ∧ bn (c ∈ t) b) := by
      intro b' hb'
      refine ia_go 1 rfl ?_
      dsimp only [ia_s1, ia_s2, ia_cl, ia_D, List.getElem?_cons_zero, List.getElem?_cons_succ, List.set_cons_zero, List.set_cons_succ]
      refine ia_go 1 rfl ?_
      dsimp only [ia_s1, ia_s2, ia_cl, ia_D, List.getElem?_cons_zero, List.getElem?_cons_succ, List.set_cons_zero, List.set_cons_succ]
      refine ia_go 1 rfl ?_
      rw [show nI m + Int32.ofInt 1 = nI (m + 1) from nI_1 m]
      exact ih (m + 1) (by omega) b' hb'
    have hmem : c ∈ t.take (m + 1) ↔ c ∈ t.take m ∨ c = t[m] := by
      rw [List.take_succ_eq_append_getElem hmt, List.mem_append, List.mem_singleton]
    rcases hb with ⟨rfl, h⟩ | ⟨rfl, h⟩
    ·
      refine ia_go 3 rfl ?_
      rw [if_neg (show ¬ nI n ≤ nI m from nI_ge (by omega) (by omega))]
      refine ia_go 2 rfl ?_
      rw [if_pos (by decide)]
      refine ia_go 2 rfl ?_
      exact nxt 1 (Or.inl ⟨rfl, hmem.mpr (Or.inl h)⟩)
    · by_cases hcc : t[m] = c
      ·
        refine ia_go 3 rfl ?_
        rw [if_neg (show ¬ nI n ≤ nI m from nI_ge (by omega) (by omega))]
        refine ia_go 2 rfl ?_
        rw [if_neg (by decide)]
        refine ia_go 1 rfl ?_
        refine ia_getf rfl hm.1 rfl ?_
        refine ia_go 3 rfl ?_
        rw [nI_add]
        refine rm_ld (K := 0) rfl hX (by decide) rfl (show p + m < 10600 by omega) (by decide) ?_
        rw [hc]
        refine ia_go 2 rfl ?_
        rw [if_neg (fun z => z hcc)]
        refine ia_go 2 rfl ?_
        exact nxt 1 (Or.inl ⟨rfl, hmem.mpr (Or.inr hcc.symm)⟩)
      ·
        refine ia_go 3 rfl ?_
        rw [if_neg (show ¬ nI n ≤ nI m from nI_ge (by omega) (by omega))]
        refine ia_go 2 rfl ?_
        rw [if_neg (by decide)]
        refine ia_go 1 rfl ?_
        refine ia_getf rfl hm.1 rfl ?_
        refine ia_go 3 rfl ?_
        rw [nI_add]
        refine rm_ld (K := 0) rfl hX (by decide) rfl (show p + m < 10600 by omega) (by decide) ?_
        rw [hc]
        refine ia_go 2 rfl ?_
        rw [if_pos hcc]
        refine ia_go 1 rfl ?_
        exact nxt 0 (Or.inr ⟨rfl, fun z => (hmem.mp z).elim h (fun z => hcc z.symm)⟩)
theorem rm_has {G : ia_G} {h0 : ia_H} {d p : Nat} {c : Int32} {F : Nat → Nat → Int32} {S : Nat → Int32} {t : List Int32} (hm : rm h0 F S) (hp : p + t.length ≤ 10600) (ht : tm_t F p t) : ia_Cn pg G kk_M_has d 0 0 [.ref 117, .int (nI p), .int (nI t.length), .int c] h0 (fun rv h' => h' = h0 ∧ ∃ b, rv = some (.int b) ∧ bn (c ∈ t) b) := by
  refine jd_met (ls := [.ref 117, .int (nI p), .int (nI t.length), .int c, .retAddr 0, .retAddr 0]) rfl rfl rfl ?_
  refine ia_go 2 rfl ?_
  dsimp only [ia_s1, ia_s2, ia_cl, ia_D, List.getElem?_cons_zero, List.getElem?_cons_succ, List.set_cons_zero, List.set_cons_succ]
  refine ia_go 2 rfl ?_
  dsimp only [ia_s1, ia_s2, ia_cl, ia_D, List.getElem?_cons_zero, List.getElem?_cons_succ, List.set_cons_zero, List.set_cons_succ]
  exact rm_hasloop hm rfl hp ht t.length 0 (by omega) 0 (Or.inr ⟨rfl, by simp⟩)
/-- the five variables -/
def vch (j : Nat) : Int32 := if j < 3 then 97 + nI j else if j = 3 then 120 else 122
/-- a state, as digits, and its number -/
def d7 (D : Nat → Nat) : Prop := ∀ j, j < 5 → D j ≤ 7
def num (D : Nat → Nat) : Nat := 4096 * D 0 + 512 * D 1 + 64 * D 2 + 8 * D 3 + D 4
def red (t : List Int32) (D : Nat → Nat) : Prop := ∀ j, j < 5 → ¬ vch j ∈ t → D j = 0
def dst (F : Nat → Nat → Int32) (D : Nat → Nat) : Prop := ∀ j, j < 5 → F 16 j = nI (D j)
/-- the state that follows -/
def nxs (t : List Int32) (D D' : Nat → Nat) : Prop := d7 D' ∧ red t D' ∧ num D < num D' ∧ ∀ E, d7 E → red t E → num D < num E → num D' ≤ num E
theorem vch_lt {i : Nat} (h : i < 3) : (97 : Int32) + nI i = vch i := by unfold vch; rw [if_pos h]
theorem nxs_at {t : List Int32} {D : Nat → Nat} {k : Nat} (hk : k < 5) (hD : d7 D) (hr : red t D) (ho : vch k ∈ t) (h7 : D k < 7) (hi : ∀ j, k < j → j < 5 → vch j ∈ t → D j = 7) : nxs t D (fun j => if k < j then 0 else if j = k then D k + 1 else D j) := by
  have le : ∀ E, d7 E → red t E → ∀ j, k < j → j < 5 → E j ≤ D j := by
    intro E hE hr' j h1 h2
    by_cases hj : vch j ∈ t
    · rw [hi j h1 h2 hj]; exact hE j h2
    · rw [hr' j h2 hj]; exact Nat.zero_le _
  have D0 := hD 0 (by omega)
  have D1 := hD 1 (by omega)
  have D2 := hD 2 (by omega)
  have D3 := hD 3 (by omega)
  have D4 := hD 4 (by omega)
  refine ⟨fun j hj => ?_, fun j hj hn => ?_, ?_, fun E hE hrE hlt => ?_⟩
  · show (if k < j then 0 else if j = k then D k + 1 else D j) ≤ 7
    split
    · omega
    · split
      · omega
      · exact hD j hj
  · show (if k < j then 0 else if j = k then D k + 1 else D j) = 0
    split
    · rfl
    · split
      next e => exact absurd (e ▸ ho) hn
      next => exact hr j hj hn
  · have hks : k = 0 ∨ k = 1 ∨ k = 2 ∨ k = 3 ∨ k = 4 := by omega
    unfold num
    rcases hks with rfl | rfl | rfl | rfl | rfl <;> simp <;> omega
  · have E0 := hE 0 (by omega)
    have E1 := hE 1 (by omega)
    have E2 := hE 2 (by omega)
    have E3 := hE 3 (by omega)
    have E4 := hE 4 (by omega)
    have hl := le E hE hrE
    have hks : k = 0 ∨ k = 1 ∨ k = 2 ∨ k = 3 ∨ k = 4 := by omega
    unfold num at *
    rcases hks with rfl | rfl | rfl | rfl | rfl
    · have a1 := hl 1 (by omega) (by omega); have a2 := hl 2 (by omega) (by omega); have a3 := hl 3 (by omega) (by omega); have a4 := hl 4 (by omega) (by omega)
      simp; omega
    · have a2 := hl 2 (by omega) (by omega); have a3 := hl 3 (by omega) (by omega); have a4 := hl 4 (by omega) (by omega)
      simp; omega
    · have a3 := hl 3 (by omega) (by omega); have a4 := hl 4 (by omega) (by omega)
      simp; omega
    · have a4 := hl 4 (by omega) (by omega)
      simp; omega
    · simp; omega
theorem nxs_no {t : List Int32} {D : Nat → Nat} (hi : ∀ j, j < 5 → vch j ∈ t → D j = 7) : ∀ E, d7 E → red t E → num E ≤ num D := by
  intro E hE hr
  have le : ∀ j, j < 5 → E j ≤ D j := by
    intro j h2
    by_cases hj : vch j ∈ t
    · rw [hi j h2 hj]; exact hE j h2
    · rw [hr j h2 hj]; exact Nat.zero_le _
  have a0 := le 0 (by omega); have a1 := le 1 (by omega); have a2 := le 2 (by omega); have a3 := le 3 (by omega); have a4 := le 4 (by omega)
  unfold num
  omega
