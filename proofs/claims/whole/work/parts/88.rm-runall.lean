/-! THE REFERENCE, 29: run. -/
section RN
variable {G : ia_G} {h0 : ia_H} {d N : Nat} {va vb vc : Int32} {F : Nat → Nat → Int32} {S : Nat → Int32} {C : List (Nat × Nat × Nat)} {gt : Nat → List Int32} {LW K1 K2 V r : Nat → Nat}
theorem rm_nmloop {z4 z5 z6 : Int32} {Post : Option Value → ia_H → Prop} (kk : ∀ h' F', rm_X h0 h' F' S → (∀ j, j < 3 → F' 23 j = F 16 j) → (∀ k j, k ≠ 23 → F' k j = F k j) → ia_Sx pg G kk_M_run d 0 0 208 [.ref 117, .int va, .int vb, .int vc, .int z4, .int z5, .int z6, .int (nI 3)] [] h' Post) : ∀ (s i : Nat), i + s = 3 → ∀ (h : ia_H) (F1 : Nat → Nat → Int32), rm_X h0 h F1 S → (∀ j, j < i → F1 23 j = F 16 j) → (∀ k j, k ≠ 23 → F1 k j = F k j) → ia_Sx pg G kk_M_run d 0 0 182 [.ref 117, .int va, .int vb, .int vc, .int z4, .int z5, .int z6, .int (nI i)] [] h Post := by
  intro s
  induction s with
  | zero =>
    intro i hi h F1 hm h1 h2
    obtain rfl : i = 3 := by omega
    refine ia_go 3 rfl ?_
    rw [if_pos (by decide)]
    exact kk h F1 hm h1 h2
  | succ s ih =>
    intro i hi h F1 hm h1 h2
    refine ia_go 3 rfl ?_
    rw [if_neg (show ¬ (3 : Int32) ≤ nI i from nI_ge (b := 3) (by omega) (by omega))]
    refine ia_go 1 rfl ?_
    refine ia_getf rfl hm.1.1 rfl ?_
    refine ia_go 2 rfl ?_
    refine ia_getf rfl hm.1.1 rfl ?_
    refine ia_go 1 rfl ?_
    refine rm_ld (K := 16) rfl hm (by decide) rfl (show i < 5 by omega) (by decide) ?_
    refine rm_st (K := 23) rfl hm (by decide) rfl (show i < 4 by omega) (by decide) (fun h9 hm => ?_)
    refine ia_go 1 rfl ?_
    dsimp only [ia_s1, ia_s2, ia_cl, ia_D, List.getElem?_cons_zero, List.getElem?_cons_succ, List.set_cons_zero, List.set_cons_succ]
    refine ia_go 1 rfl ?_
    rw [show nI i + Int32.ofInt 1 = nI (i + 1) from nI_1 i]
    refine ih (i + 1) (by omega) _ _ hm (fun j hj => ?_) (fun k j hk => (rm_uk hk).trans (h2 k j hk))
    by_cases hji : j = i
    · rw [hji, rm_uu]; exact h2 16 i (by decide)
    · rw [rm_un hji]; exact h1 j (by omega)
def rn_Q (h0 : ia_H) (F : Nat → Nat → Int32) (S : Nat → Int32) (C : List (Nat × Nat × Nat)) (res : Nat × Nat × (Nat → Int32)) (rv : Option Value) (h' : ia_H) : Prop := rv = some (.int (nI res.1)) ∧ ∃ F' S', rm_X h0 h' F' S' ∧ (∀ k j, k < 15 ∨ k = 17 → F' k j = F k j) ∧ (∀ k, k ≠ 4 → k ≠ 5 → k ≠ 7 → S' k = S k) ∧ (∀ j, j < 3 → F' 23 j = res.2.2 j) ∧ F' 23 3 = if (kn C res.2.1).1 = 4 then 1 else 0
def rn_0 (va vb vc : Int32) : Nat → Int32 := fun j => if j = 0 then va &&& 7 else if j = 1 then vb &&& 7 else vc &&& 7
/-- behind the loop -/
theorem rm_rnend {h : ia_H} {Fp F1 : Nat → Nat → Int32} {Sp : Nat → Int32} {res : Nat × Nat × (Nat → Int32)} {z7 : Value} (hri : ri h0 h Fp Sp F1 res.2.2) (ha : res.2.1 < C.length) (hC80 : C.length ≤ 80) (hk4 : (kn C res.2.1).1 ≤ 4) (hz : z7 = .retAddr 0 ∨ ∃ q, z7 = .int q) (hC : cr Fp 0 C) (hFp : ∀ k j, k < 18 ∨ 22 < k → Fp k j = F k j) (hSp : ∀ k, k ≠ 4 → k ≠ 5 → Sp k = S k) : ia_Sx pg G kk_M_run d 0 0 179 [.ref 117, .int va, .int vb, .int vc, .int (nI N), .int (nI res.2.1), .int (nI res.1), z7] [] h (rn_Q h0 F S C res) := by
  obtain ⟨S1, g1, g2, g3, g4, g5, g6⟩ := hri
  obtain ⟨c1, -, -⟩ := cr_kn hC ha
  have go : ia_Sx pg G kk_M_run d 0 0 182 [.ref 117, .int va, .int vb, .int vc, .int (nI N), .int (nI res.2.1), .int (nI res.1), .int (nI 0)] [] h (rn_Q h0 F S C res) := by
    refine rm_nmloop (F := F1) (fun h2 F2 hm2 e1 e2 => ?_) 3 0 (by omega) h F1 g1 (fun j hj => by omega) (fun _ _ _ => rfl)
    have d1 : F2 18 res.2.1 = nI (kn C res.2.1).1 := (e2 18 _ (by decide)).trans ((g2 18 _ (by decide) (by decide)).trans c1)
    have fin : ∀ e : Int32, e = (if (kn C res.2.1).1 = 4 then 1 else 0) → ia_Sx pg G kk_M_run d 0 0 229 [.ref 117, .int va, .int vb, .int vc, .int (nI N), .int (nI res.2.1), .int (nI res.1), .int (nI 3)] [.int e, .int (nI 3), .ref 141] h2 (rn_Q h0 F S C res) := by
      intro e he
      refine rm_st (K := 23) rfl hm2 (by decide) rfl (by decide) (by decide) (fun h9 hm => ?_)
      refine ia_go 1 rfl ?_
      exact jd_rv1 rfl rfl rfl trivial ⟨rfl, _, S1, hm, fun k j hk => (rm_uk (by omega)).trans ((e2 k j (by omega)).trans ((g2 k j (by omega) (by omega)).trans (hFp k j (by omega)))), fun k k1 k2 k3 => (g3 k k3).trans (hSp k k1 k2), fun j hj => (rm_un (by omega)).trans ((e1 j hj).trans (g4 j hj)), rm_uu.trans he⟩
    by_cases h4 : (kn C res.2.1).1 = 4
    · rw [h4] at d1
      refine ia_go 1 rfl ?_
      refine ia_getf rfl hm2.1.1 rfl ?_
      refine ia_go 2 rfl ?_
      refine ia_getf rfl hm2.1.1 rfl ?_
      refine ia_go 1 rfl ?_
      refine rm_ld (K := 18) rfl hm2 (by decide) rfl (show res.2.1 < 80 by omega) (by decide) ?_
      rw [d1]
      refine ia_go 2 rfl ?_
      rw [if_neg (fun z => z rfl)]
      refine ia_go 2 rfl ?_
      exact fin 1 (by rw [if_pos h4])
    · have hne : ¬ F2 18 res.2.1 = 4 := by
        rw [d1]
        intro z
        exact h4 ((nI_eq (b := 4) (by omega) (by decide)).mp z)
      refine ia_go 1 rfl ?_
      refine ia_getf rfl hm2.1.1 rfl ?_
      refine ia_go 2 rfl ?_
      refine ia_getf rfl hm2.1.1 rfl ?_
      refine ia_go 1 rfl ?_
      refine rm_ld (K := 18) rfl hm2 (by decide) rfl (show res.2.1 < 80 by omega) (by decide) ?_
      refine ia_go 2 rfl ?_
      rw [if_pos hne]
      refine ia_go 1 rfl ?_
      exact fin 0 (by rw [if_neg h4])
  rcases hz with rfl | ⟨q, rfl⟩
  ·
    refine ia_go 2 rfl ?_
    dsimp only [ia_s1, ia_s2, ia_cl, ia_D, List.getElem?_cons_zero, List.getElem?_cons_succ, List.set_cons_zero, List.set_cons_succ]
    exact go
  ·
    refine ia_go 2 rfl ?_
    dsimp only [ia_s1, ia_s2, ia_cl, ia_D, List.getElem?_cons_zero, List.getElem?_cons_succ, List.set_cons_zero, List.set_cons_succ]
    exact go
end RN
