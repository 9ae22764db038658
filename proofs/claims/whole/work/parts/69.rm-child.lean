/-! THE REFERENCE, 10: hasRoom, freeNode, child. -/
/-- how many nodes there are up to number i -/
def ct (F : Nat → Nat → Int32) : Nat → Nat
  | 0 => 0
  | i + 1 => ct F i + if F 2 (i + 1) = 0 then 0 else 1
theorem ct_le (F : Nat → Nat → Int32) (i : Nat) : ct F i ≤ i := by
  induction i with
  | zero => exact Nat.le_refl _
  | succ i ih => unfold ct; split <;> omega
theorem ct_ext {F F' : Nat → Nat → Int32} {i : Nat} (h : ∀ j, 1 ≤ j → j ≤ i → F' 2 j = F 2 j) : ct F' i = ct F i := by
  induction i with
  | zero => rfl
  | succ i ih => unfold ct; rw [ih (fun j h1 h2 => h j h1 (by omega)), h (i + 1) (by omega) (by omega)]
/-- some number is free -/
theorem ct_free {F : Nat → Nat → Int32} {i : Nat} (h : ct F i < i) : ∃ j, 1 ≤ j ∧ j ≤ i ∧ F 2 j = 0 := by
  induction i with
  | zero => omega
  | succ i ih =>
    by_cases h1 : F 2 (i + 1) = 0
    · exact ⟨i + 1, by omega, by omega, h1⟩
    · unfold ct at h
      rw [if_neg h1] at h
      obtain ⟨j, a, b, c⟩ := ih (by omega)
      exact ⟨j, a, by omega, c⟩
theorem ct_upd {F : Nat → Nat → Int32} {i j : Nat} {x : Int32} (h1 : 1 ≤ j) (h2 : j ≤ i) (h3 : F 2 j = 0) (hx : x ≠ 0) : ct (rm_u F 2 j x) i = ct F i + 1 := by
  induction i with
  | zero => omega
  | succ i ih =>
    by_cases hj : j = i + 1
    · subst hj
      unfold ct
      rw [rm_uu, if_neg hx, if_pos h3, ct_ext (F := F) (fun k a b => rm_un (by omega))]
    · unfold ct
      rw [ih (by omega), rm_un (by omega)]
      omega
theorem rm_hrloop1 {G : ia_G} {h0 : ia_H} {d nk : Nat} {F : Nat → Nat → Int32} {S : Nat → Int32} {Post : Option Value → ia_H → Prop} (hm : rm h0 F S) (kk : ia_Sx pg G kk_M_hasRoom d 0 0 36 [.ref 117, .int (nI (nk + ct F 16)), .int (nI 17), .retAddr 0] [] h0 Post) : ∀ (r i : Nat), i + 1 + r = 17 → ia_Sx pg G kk_M_hasRoom d 0 0 7 [.ref 117, .int (nI (nk + ct F i)), .int (nI (i + 1)), .retAddr 0] [] h0 Post := by
  have hX := hm.X
  intro r
  induction r with
  | zero =>
    intro i hi
    obtain rfl : i = 16 := by omega
    refine ia_go 3 rfl ?_
    rw [if_pos (by decide)]
    exact kk
  | succ r ih =>
    intro i hi
    have nxt : ∀ e : Nat, e = (if F 2 (i + 1) = 0 then 0 else 1) → ia_Sx pg G kk_M_hasRoom d 0 0 28 [.ref 117, .int (nI (nk + ct F i)), .int (nI (i + 1)), .retAddr 0] [.int (nI e), .int (nI (nk + ct F i))] h0 Post := by
      intro e he
      refine ia_go 2 rfl ?_
      dsimp only [ia_s1, ia_s2, ia_cl, ia_D, List.getElem?_cons_zero, List.getElem?_cons_succ, List.set_cons_zero, List.set_cons_succ]
      refine ia_go 1 rfl ?_
      dsimp only [ia_s1, ia_s2, ia_cl, ia_D, List.getElem?_cons_zero, List.getElem?_cons_succ, List.set_cons_zero, List.set_cons_succ]
      refine ia_go 1 rfl ?_
      rw [show nI (i + 1) + Int32.ofInt 1 = nI (i + 1 + 1) from nI_1 (i + 1), nI_add, he, show nk + ct F i + (if F 2 (i + 1) = 0 then 0 else 1) = nk + ct F (i + 1) from Nat.add_assoc _ _ _]
      exact ih (i + 1) (by omega)
    by_cases h1 : F 2 (i + 1) = 0
    ·
      refine ia_go 3 rfl ?_
      rw [if_neg (show ¬ (17 : Int32) ≤ nI (i + 1) from nI_ge (b := 17) (by omega) (by omega))]
      refine ia_go 2 rfl ?_
      refine ia_getf rfl hm.1 rfl ?_
      refine ia_go 1 rfl ?_
      refine rm_zld (K := 2) rfl hX (by decide) rfl (show i + 1 < 17 by omega) (by decide) ?_
      refine ia_go 1 rfl ?_
      rw [if_pos h1]
      refine ia_go 1 rfl ?_
      exact nxt 0 (by rw [if_pos h1])
    ·
      refine ia_go 3 rfl ?_
      rw [if_neg (show ¬ (17 : Int32) ≤ nI (i + 1) from nI_ge (b := 17) (by omega) (by omega))]
      refine ia_go 2 rfl ?_
      refine ia_getf rfl hm.1 rfl ?_
      refine ia_go 1 rfl ?_
      refine rm_zld (K := 2) rfl hX (by decide) rfl (show i + 1 < 17 by omega) (by decide) ?_
      refine ia_go 1 rfl ?_
      rw [if_neg h1]
      refine ia_go 2 rfl ?_
      exact nxt 1 (by rw [if_neg h1])
/-- a truth as a number -/
def bn (P : Prop) (b : Int32) : Prop := (b = 1 ∧ P) ∨ (b = 0 ∧ ¬ P)
theorem bn.iff {P Q : Prop} {b : Int32} (h : bn P b) (e : P ↔ Q) : bn Q b := h.imp (fun h => ⟨h.1, e.mp h.2⟩) (fun h => ⟨h.1, fun z => h.2 (e.mpr z)⟩)
theorem rm_hrloop2 {G : ia_G} {h0 : ia_H} {d nk : Nat} {P : Prop} {z : Int32} {F : Nat → Nat → Int32} {S : Nat → Int32} {Post : Option Value → ia_H → Prop} (hm : rm h0 F S) (hS : S 3 = nI nk) (hk : nk ≤ 2) (kk : ∀ b, bn (P ∧ ∀ j, j < 2 * nk → ¬ 120 < F 13 j) b → ia_Sx pg G kk_M_hasRoom d 0 0 96 [.ref 117, .int z, .int b, .int (nI (2 * nk))] [] h0 Post) : ∀ (r i : Nat), i + r = 2 * nk → ∀ b, bn (P ∧ ∀ j, j < i → ¬ 120 < F 13 j) b → ia_Sx pg G kk_M_hasRoom d 0 0 59 [.ref 117, .int z, .int b, .int (nI i)] [] h0 Post := by
  have hX := hm.X
  have h2 : (2 : Int32) * nI nk = nI (2 * nk) := by unfold nI; rw [Int32.ofNat_mul]; rfl
  intro r
  induction r with
  | zero =>
    intro i hi b hb
    obtain rfl : i = 2 * nk := by omega
    refine ia_go 3 rfl ?_
    refine ia_getf rfl hm.1 rfl ?_
    refine ia_go 2 rfl ?_
    rw [hS]
    rw [h2]
    rw [if_pos (show nI (2 * nk) ≤ nI (2 * nk) from nI_le (by omega) (by omega))]
    exact kk b hb
  | succ r ih =>
    intro i hi b hb
    have nxt : ∀ e : Int32, bn (P ∧ ∀ j, j < i + 1 → ¬ 120 < F 13 j) e → ia_Sx pg G kk_M_hasRoom d 0 0 89 [.ref 117, .int z, .int b, .int (nI i)] [.int e] h0 Post := by
      intro e he
      refine ia_go 1 rfl ?_
      dsimp only [ia_s1, ia_s2, ia_cl, ia_D, List.getElem?_cons_zero, List.getElem?_cons_succ, List.set_cons_zero, List.set_cons_succ]
      refine ia_go 1 rfl ?_
      dsimp only [ia_s1, ia_s2, ia_cl, ia_D, List.getElem?_cons_zero, List.getElem?_cons_succ, List.set_cons_zero, List.set_cons_succ]
      refine ia_go 1 rfl ?_
      rw [show nI i + Int32.ofInt 1 = nI (i + 1) from nI_1 i]
      exact ih (i + 1) (by omega) e he
    have spl : (∀ j, j < i + 1 → ¬ 120 < F 13 j) ↔ (∀ j, j < i → ¬ 120 < F 13 j) ∧ ¬ 120 < F 13 i := by
      constructor
      · exact fun h => ⟨fun j hj => h j (by omega), h i (by omega)⟩
      · rintro ⟨a, b⟩ j hj
        rcases Nat.lt_or_ge j i with h | h
        · exact a j h
        · obtain rfl : j = i := by omega
          exact b
    rcases hb with ⟨rfl, hP⟩ | ⟨rfl, hP⟩
    · by_cases hc : 120 < F 13 i
      ·
        refine ia_go 3 rfl ?_
        refine ia_getf rfl hm.1 rfl ?_
        refine ia_go 2 rfl ?_
        rw [hS]
        rw [h2]
        rw [if_neg (show ¬ nI (2 * nk) ≤ nI i from nI_ge (by omega) (by omega))]
        refine ia_go 2 rfl ?_
        rw [if_neg (by decide)]
        refine ia_go 1 rfl ?_
        refine ia_getf rfl hm.1 rfl ?_
        refine ia_go 1 rfl ?_
        refine rm_ld (K := 13) rfl hX (by decide) rfl (show i < 6 by omega) (by decide) ?_
        refine ia_go 2 rfl ?_
        rw [if_pos hc]
        refine ia_go 1 rfl ?_
        exact nxt 0 (Or.inr ⟨rfl, fun z => (spl.mp z.2).2 hc⟩)
      ·
        refine ia_go 3 rfl ?_
        refine ia_getf rfl hm.1 rfl ?_
        refine ia_go 2 rfl ?_
        rw [hS]
        rw [h2]
        rw [if_neg (show ¬ nI (2 * nk) ≤ nI i from nI_ge (by omega) (by omega))]
        refine ia_go 2 rfl ?_
        rw [if_neg (by decide)]
        refine ia_go 1 rfl ?_
        refine ia_getf rfl hm.1 rfl ?_
        refine ia_go 1 rfl ?_
        refine rm_ld (K := 13) rfl hX (by decide) rfl (show i < 6 by omega) (by decide) ?_
        refine ia_go 2 rfl ?_
        rw [if_neg hc]
        refine ia_go 2 rfl ?_
        exact nxt 1 (Or.inl ⟨rfl, hP.1, spl.mpr ⟨hP.2, hc⟩⟩)
    ·
      refine ia_go 3 rfl ?_
      refine ia_getf rfl hm.1 rfl ?_
      refine ia_go 2 rfl ?_
      rw [hS]
      rw [h2]
      rw [if_neg (show ¬ nI (2 * nk) ≤ nI i from nI_ge (by omega) (by omega))]
      refine ia_go 2 rfl ?_
      rw [if_pos (by decide)]
      refine ia_go 1 rfl ?_
      exact nxt 0 (Or.inr ⟨rfl, fun z => hP ⟨z.1, (spl.mp z.2).1⟩⟩)
theorem rm_hrloop3 {G : ia_G} {h0 : ia_H} {d nc : Nat} {P : Prop} {z : Int32} {F : Nat → Nat → Int32} {S : Nat → Int32} (hm : rm h0 F S) (hS : S 2 = nI nc) (hk : nc ≤ 2) : ∀ (r i : Nat), i + r = nc → ∀ b, bn (P ∧ ∀ j, j < i → ¬ 120 < F 13 (4 + j)) b → ia_Sx pg G kk_M_hasRoom d 0 0 98 [.ref 117, .int z, .int b, .int (nI i)] [] h0 (fun rv h' => h' = h0 ∧ ∃ b, rv = some (.int b) ∧ bn (P ∧ ∀ j, j < nc → ¬ 120 < F 13 (4 + j)) b) := by
  have hX := hm.X
  intro r
  induction r with
  | zero =>
    intro i hi b hb
    obtain rfl : i = nc := by omega
    refine ia_go 2 rfl ?_
    refine ia_getf rfl hm.1 rfl ?_
    refine ia_go 1 rfl ?_
    rw [hS]
    rw [if_pos (show nI i ≤ nI i from nI_le (by omega) (by omega))]
    refine ia_go 1 rfl ?_
    refine jd_rv1 rfl rfl rfl ?_ ⟨rfl, b, rfl, hb⟩
    rcases hb with ⟨rfl, -⟩ | ⟨rfl, -⟩ <;> rfl
  | succ r ih =>
    intro i hi b hb
    have nxt : ∀ e : Int32, bn (P ∧ ∀ j, j < i + 1 → ¬ 120 < F 13 (4 + j)) e → ia_Sx pg G kk_M_hasRoom d 0 0 128 [.ref 117, .int z, .int b, .int (nI i)] [.int e] h0 (fun rv h' => h' = h0 ∧ ∃ b, rv = some (.int b) ∧ bn (P ∧ ∀ j, j < nc → ¬ 120 < F 13 (4 + j)) b) := by
      intro e he
      refine ia_go 1 rfl ?_
      dsimp only [ia_s1, ia_s2, ia_cl, ia_D, List.getElem?_cons_zero, List.getElem?_cons_succ, List.set_cons_zero, List.set_cons_succ]
      refine ia_go 1 rfl ?_
      dsimp only [ia_s1, ia_s2, ia_cl, ia_D, List.getElem?_cons_zero, List.getElem?_cons_succ, List.set_cons_zero, List.set_cons_succ]
      refine ia_go 1 rfl ?_
      rw [show nI i + Int32.ofInt 1 = nI (i + 1) from nI_1 i]
      exact ih (i + 1) (by omega) e he
    have spl : (∀ j, j < i + 1 → ¬ 120 < F 13 (4 + j)) ↔ (∀ j, j < i → ¬ 120 < F 13 (4 + j)) ∧ ¬ 120 < F 13 (4 + i) := by
      constructor
      · exact fun h => ⟨fun j hj => h j (by omega), h i (by omega)⟩
      · rintro ⟨a, b⟩ j hj
        rcases Nat.lt_or_ge j i with h | h
        · exact a j h
        · obtain rfl : j = i := by omega
          exact b
    rcases hb with ⟨rfl, hP⟩ | ⟨rfl, hP⟩
    · by_cases hc : 120 < F 13 (4 + i)
      ·
        refine ia_go 2 rfl ?_
        refine ia_getf rfl hm.1 rfl ?_
        refine ia_go 1 rfl ?_
        rw [hS]
        rw [if_neg (show ¬ nI nc ≤ nI i from nI_ge (by omega) (by omega))]
        refine ia_go 2 rfl ?_
        rw [if_neg (by decide)]
        refine ia_go 1 rfl ?_
        refine ia_getf rfl hm.1 rfl ?_
        refine ia_go 3 rfl ?_
        rw [show (4 : Int32) + nI i = nI (4 + i) from nI_add 4 i]
        refine rm_ld (K := 13) rfl hX (by decide) rfl (show 4 + i < 6 by omega) (by decide) ?_
        refine ia_go 2 rfl ?_
        rw [if_pos hc]
        refine ia_go 1 rfl ?_
        exact nxt 0 (Or.inr ⟨rfl, fun z => (spl.mp z.2).2 hc⟩)
      ·
        refine ia_go 2 rfl ?_
        refine ia_getf rfl hm.1 rfl ?_
        refine ia_go 1 rfl ?_
        rw [hS]
        rw [if_neg (show ¬ nI nc ≤ nI i from nI_ge (by omega) (by omega))]
        refine ia_go 2 rfl ?_
        rw [if_neg (by decide)]
        refine ia_go 1 rfl ?_
        refine ia_getf rfl hm.1 rfl ?_
        refine ia_go 3 rfl ?_
        rw [show (4 : Int32) + nI i = nI (4 + i) from nI_add 4 i]
        refine rm_ld (K := 13) rfl hX (by decide) rfl (show 4 + i < 6 by omega) (by decide) ?_
        refine ia_go 2 rfl ?_
        rw [if_neg hc]
        refine ia_go 2 rfl ?_
        exact nxt 1 (Or.inl ⟨rfl, hP.1, spl.mpr ⟨hP.2, hc⟩⟩)
    ·
      refine ia_go 2 rfl ?_
      refine ia_getf rfl hm.1 rfl ?_
      refine ia_go 1 rfl ?_
      rw [hS]
      rw [if_neg (show ¬ nI nc ≤ nI i from nI_ge (by omega) (by omega))]
      refine ia_go 2 rfl ?_
      rw [if_pos (by decide)]
      refine ia_go 1 rfl ?_
      exact nxt 0 (Or.inr ⟨rfl, fun z => hP ⟨z.1, (spl.mp z.2).1⟩⟩)
theorem rm_hasRoom {G : ia_G} {h0 : ia_H} {d nk nc rr : Nat} {F : Nat → Nat → Int32} {S : Nat → Int32} (hm : rm h0 F S) (hS3 : S 3 = nI nk) (hk : nk ≤ 2) (hS2 : S 2 = nI nc) (hc : nc ≤ 2) (hS1 : S 1 = nI rr) (hr : rr ≤ 48) : ia_Cn pg G kk_M_hasRoom d 0 0 [.ref 117] h0 (fun rv h' => h' = h0 ∧ ∃ b, rv = some (.int b) ∧ bn (((nk + ct F 16 ≤ 16 ∧ rr < 48) ∧ ∀ j, j < 2 * nk → ¬ 120 < F 13 j) ∧ ∀ j, j < nc → ¬ 120 < F 13 (4 + j)) b) := by
  have hct := ct_le F 16
  have rest : ∀ b, bn (nk + ct F 16 ≤ 16 ∧ rr < 48) b → ia_Sx pg G kk_M_hasRoom d 0 0 56 [.ref 117, .int (nI (nk + ct F 16)), .int (nI 17), .retAddr 0] [.int b] h0 (fun rv h' => h' = h0 ∧ ∃ b, rv = some (.int b) ∧ bn (((nk + ct F 16 ≤ 16 ∧ rr < 48) ∧ ∀ j, j < 2 * nk → ¬ 120 < F 13 j) ∧ ∀ j, j < nc → ¬ 120 < F 13 (4 + j)) b) := by
    intro b hb
    refine ia_go 1 rfl ?_
    dsimp only [ia_s1, ia_s2, ia_cl, ia_D, List.getElem?_cons_zero, List.getElem?_cons_succ, List.set_cons_zero, List.set_cons_succ]
    refine ia_go 2 rfl ?_
    dsimp only [ia_s1, ia_s2, ia_cl, ia_D, List.getElem?_cons_zero, List.getElem?_cons_succ, List.set_cons_zero, List.set_cons_succ]
    refine rm_hrloop2 hm hS3 hk (fun b hb => ?_) (2 * nk) 0 (by omega) b (hb.iff ⟨fun h => ⟨h, fun j hj => by omega⟩, fun h => h.1⟩)
    refine ia_go 2 rfl ?_
    dsimp only [ia_s1, ia_s2, ia_cl, ia_D, List.getElem?_cons_zero, List.getElem?_cons_succ, List.set_cons_zero, List.set_cons_succ]
    exact rm_hrloop3 hm hS2 hc nc 0 (by omega) b (hb.iff ⟨fun h => ⟨h, fun j hj => by omega⟩, fun h => h.1⟩)
  refine jd_met (ls := [.ref 117, .retAddr 0, .retAddr 0, .retAddr 0]) rfl rfl rfl ?_
  refine ia_go 1 rfl ?_
  refine ia_getf rfl hm.1 rfl ?_
  rw [hS3]
  refine ia_go 1 rfl ?_
  dsimp only [ia_s1, ia_s2, ia_cl, ia_D, List.getElem?_cons_zero, List.getElem?_cons_succ, List.set_cons_zero, List.set_cons_succ]
  refine ia_go 2 rfl ?_
  dsimp only [ia_s1, ia_s2, ia_cl, ia_D, List.getElem?_cons_zero, List.getElem?_cons_succ, List.set_cons_zero, List.set_cons_succ]
  refine rm_hrloop1 (nk := nk) hm ?_ 16 0 (by omega)
  by_cases h1 : nk + ct F 16 ≤ 16
  · by_cases h2 : rr < 48
    ·
      refine ia_go 3 rfl ?_
      rw [if_neg (show ¬ (16 : Int32) < nI (nk + ct F 16) from nI_nlt (a := 16) h1 (by omega))]
      refine ia_go 1 rfl ?_
      refine ia_getf rfl hm.1 rfl ?_
      refine ia_go 2 rfl ?_
      rw [hS1]
      rw [if_neg (show ¬ (48 : Int32) ≤ nI rr from nI_ge (b := 48) h2 (by omega))]
      refine ia_go 2 rfl ?_
      exact rest 1 (Or.inl ⟨rfl, h1, h2⟩)
    ·
      refine ia_go 3 rfl ?_
      rw [if_neg (show ¬ (16 : Int32) < nI (nk + ct F 16) from nI_nlt (a := 16) h1 (by omega))]
      refine ia_go 1 rfl ?_
      refine ia_getf rfl hm.1 rfl ?_
      refine ia_go 2 rfl ?_
      rw [hS1]
      rw [if_pos (show (48 : Int32) ≤ nI rr from nI_le (a := 48) (by omega) (by omega))]
      refine ia_go 1 rfl ?_
      exact rest 0 (Or.inr ⟨rfl, fun z => h2 z.2⟩)
  ·
    refine ia_go 3 rfl ?_
    rw [if_pos (show (16 : Int32) < nI (nk + ct F 16) from nI_lt (a := 16) (by omega) (by omega))]
    refine ia_go 1 rfl ?_
    exact rest 0 (Or.inr ⟨rfl, fun z => h1 z.1⟩)
theorem rm_fnloop {G : ia_G} {h0 : ia_H} {d N : Nat} {F : Nat → Nat → Int32} {S : Nat → Int32} (hm : rm h0 F S) (hN : N ≤ 16) (hz : F 2 N = 0) (hl : ∀ j, 1 ≤ j → j < N → F 2 j ≠ 0) : ∀ (r i : Nat), i + r = N → 1 ≤ i → ia_Sx pg G kk_M_freeNode d 0 0 2 [.ref 117, .int (nI i)] [] h0 (fun rv h' => h' = h0 ∧ rv = some (.int (nI N))) := by
  have hX := hm.X
  intro r
  induction r with
  | zero =>
    intro i hi h1
    obtain rfl : i = N := by omega
    refine ia_go 1 rfl ?_
    refine ia_getf rfl hm.1 rfl ?_
    refine ia_go 1 rfl ?_
    refine rm_zld (K := 2) rfl hX (by decide) rfl (show i < 17 by omega) (by decide) ?_
    refine ia_go 1 rfl ?_
    rw [if_pos hz]
    refine ia_go 1 rfl ?_
    exact jd_rv1 rfl rfl rfl trivial ⟨rfl, rfl⟩
  | succ r ih =>
    intro i hi h1
    refine ia_go 1 rfl ?_
    refine ia_getf rfl hm.1 rfl ?_
    refine ia_go 1 rfl ?_
    refine rm_zld (K := 2) rfl hX (by decide) rfl (show i < 17 by omega) (by decide) ?_
    refine ia_go 1 rfl ?_
    rw [if_neg (hl i h1 (by omega))]
    refine ia_go 1 rfl ?_
    dsimp only [ia_s1, ia_s2, ia_cl, ia_D, List.getElem?_cons_zero, List.getElem?_cons_succ, List.set_cons_zero, List.set_cons_succ]
    refine ia_go 1 rfl ?_
    rw [show nI i + Int32.ofInt 1 = nI (i + 1) from nI_1 i]
    exact ih (i + 1) (by omega) (by omega)
theorem rm_freeNode {G : ia_G} {h0 : ia_H} {d N : Nat} {F : Nat → Nat → Int32} {S : Nat → Int32} (hm : rm h0 F S) (hN1 : 1 ≤ N) (hN : N ≤ 16) (hz : F 2 N = 0) (hl : ∀ j, 1 ≤ j → j < N → F 2 j ≠ 0) : ia_Cn pg G kk_M_freeNode d 0 0 [.ref 117] h0 (fun rv h' => h' = h0 ∧ rv = some (.int (nI N))) := by
  refine jd_met (ls := [.ref 117, .retAddr 0]) rfl rfl rfl ?_
  refine ia_go 2 rfl ?_
  dsimp only [ia_s1, ia_s2, ia_cl, ia_D, List.getElem?_cons_zero, List.getElem?_cons_succ, List.set_cons_zero, List.set_cons_succ]
  exact rm_fnloop hm hN hz hl (N - 1) 1 (by omega) (by omega)
