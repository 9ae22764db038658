/-! THE REFERENCE, 4: type. -/
/-- the k-th character of a long, from the end -/
def ty_c (w : Int64) (k : Nat) : Int32 := (w >>> ((8 * nI k).toInt64 &&& 63) &&& 255).toInt32
def ty_ok (c : Int32) : Prop := 33 ≤ c ∧ c ≤ 126
def ty_l (w : Int64) (n : Nat) : List Int32 := (List.range n).map fun j => ty_c w (n - 1 - j)
theorem ty_l_get {w : Int64} {n j : Nat} (h : j < n) : (ty_l w n)[j]? = some (ty_c w (n - 1 - j)) := by
  unfold ty_l; simp [h]
theorem ty_l_len {w : Int64} {n : Nat} : (ty_l w n).length = n := by unfold ty_l; simp
section TYP
variable {G : ia_G} {h0 : ia_H} {d N : Nat} {w : Int64} {F : Nat → Nat → Int32} {S : Nat → Int32} {Post : Option Value → ia_H → Prop}
theorem rm_tyloop1 {h : ia_H} (hN : N ≤ 8) (kb : (∃ i, i < N ∧ ¬ ty_ok (ty_c w i)) → ∀ z5 z6, ia_Sx pg G kk_M_type d 0 0 73 [.ref 117, .long w, .retAddr 0, .int (nI N), .int 0, z5, z6] [] h Post) (kg : (∀ i, i < N → ty_ok (ty_c w i)) → ∀ z5 z6, ia_Sx pg G kk_M_type d 0 0 73 [.ref 117, .long w, .retAddr 0, .int (nI N), .int 1, z5, z6] [] h Post) : ∀ (r k : Nat), k + r = N → (∀ i, i < k → ty_ok (ty_c w i)) → ∀ z6, ia_Sx pg G kk_M_type d 0 0 21 [.ref 117, .long w, .retAddr 0, .int (nI N), .int 1, .int (nI k), z6] [] h Post := by
  intro r
  induction r with
  | zero =>
    intro k hk hok z6
    refine ia_go 3 rfl ?_
    rw [if_pos (show nI N ≤ nI k from nI_le (by omega) (by omega))]
    exact kg (fun i hi => hok i (by omega)) _ _
  | succ r ih =>
    intro k hk hok z6
    refine ia_go 3 rfl ?_
    rw [if_neg (show ¬ nI N ≤ nI k from nI_ge (by omega) (by omega))]
    refine ia_go 2 rfl ?_
    rw [if_neg (by decide)]
    refine ia_go 5 rfl ?_
    refine ia_ldc2 rfl ?_
    refine ia_go 3 rfl ?_
    dsimp only [ia_s1, ia_s2, ia_cl, ia_D, List.getElem?_cons_zero, List.getElem?_cons_succ, List.set_cons_zero, List.set_cons_succ]
    show ia_Sx pg G kk_M_type d 0 0 46 [.ref 117, .long w, .retAddr 0, .int (nI N), .int 1, .int (nI k), .int (ty_c w k)] [] h Post
    have bad : ¬ ty_ok (ty_c w k) → ia_Sx pg G kk_M_type d 0 0 64 [.ref 117, .long w, .retAddr 0, .int (nI N), .int 1, .int (nI k), .int (ty_c w k)] [] h Post := by
      intro hb
      refine ia_go 2 rfl ?_
      dsimp only [ia_s1, ia_s2, ia_cl, ia_D, List.getElem?_cons_zero, List.getElem?_cons_succ, List.set_cons_zero, List.set_cons_succ]
      refine ia_go 1 rfl ?_
      dsimp only [ia_s1, ia_s2, ia_cl, ia_D, List.getElem?_cons_zero, List.getElem?_cons_succ, List.set_cons_zero, List.set_cons_succ]
      refine ia_go 1 rfl ?_
      rw [show nI k + Int32.ofInt 1 = nI (k + 1) from nI_1 k]
      by_cases hk1 : k + 1 < N
      ·
        refine ia_go 3 rfl ?_
        rw [if_neg (show ¬ nI N ≤ nI (k + 1) from nI_ge hk1 (by omega))]
        refine ia_go 2 rfl ?_
        rw [if_pos rfl]
        exact kb ⟨k, by omega, hb⟩ _ _
      ·
        refine ia_go 3 rfl ?_
        rw [if_pos (show nI N ≤ nI (k + 1) from nI_le (by omega) (by omega))]
        exact kb ⟨k, by omega, hb⟩ _ _
    by_cases h1 : ty_c w k < 33
    ·
      refine ia_go 3 rfl ?_
      rw [if_pos h1]
      exact bad (fun z => absurd h1 (Int32.not_lt.mpr z.1))
    by_cases h2 : 126 < ty_c w k
    ·
      refine ia_go 3 rfl ?_
      rw [if_neg h1]
      refine ia_go 3 rfl ?_
      rw [if_pos h2]
      exact bad (fun z => absurd h2 (Int32.not_lt.mpr z.2))
    refine ia_go 3 rfl ?_
    rw [if_neg h1]
    refine ia_go 3 rfl ?_
    rw [if_neg h2]
    refine ia_go 3 rfl ?_
    dsimp only [ia_s1, ia_s2, ia_cl, ia_D, List.getElem?_cons_zero, List.getElem?_cons_succ, List.set_cons_zero, List.set_cons_succ]
    refine ia_go 1 rfl ?_
    dsimp only [ia_s1, ia_s2, ia_cl, ia_D, List.getElem?_cons_zero, List.getElem?_cons_succ, List.set_cons_zero, List.set_cons_succ]
    refine ia_go 1 rfl ?_
    rw [show nI k + Int32.ofInt 1 = nI (k + 1) from nI_1 k]
    refine ih (k + 1) (by omega) (fun i hi => ?_) _
    by_cases hik : i < k
    · exact hok i hik
    · rw [show i = k by omega]
      exact ⟨Int32.not_lt.mp h1, Int32.not_lt.mp h2⟩
theorem rm_tyloop2 {T : Nat} (hT : T + N ≤ 60) (hN : N ≤ 8) (kk : ∀ h' F' z5 z6, rm_X h0 h' F' (rm_s S 0 (nI (T + N))) → (∀ j, j < N → F' 0 (10500 + T + j) = ty_c w (N - 1 - j)) → (∀ k j, k ≠ 0 ∨ j < 10500 + T ∨ 10500 + T + N ≤ j → F' k j = F k j) → ia_Sx pg G kk_M_type d 0 0 145 [.ref 117, .long w, .retAddr 0, .int (nI N), .int 1, z5, z6] [] h' Post) : ∀ (r : Nat), r ≤ N → ∀ (h : ia_H) (F1 : Nat → Nat → Int32) (S1 : Nat → Int32) (z6 : Value), rm_X h0 h F1 S1 → S1 0 = nI (T + (N - r)) → (∀ k, k ≠ 0 → S1 k = S k) → (∀ j, j < N - r → F1 0 (10500 + T + j) = ty_c w (N - 1 - j)) → (∀ k j, k ≠ 0 ∨ j < 10500 + T ∨ 10500 + T + N ≤ j → F1 k j = F k j) → ia_Sx pg G kk_M_type d 0 0 99 [.ref 117, .long w, .retAddr 0, .int (nI N), .int 1, .int (nI r - 1), z6] [] h Post := by
  intro r
  induction r with
  | zero =>
    intro hr h F1 S1 z6 hm hS1 hS2 hF1 hF2
    refine ia_go 2 rfl ?_
    rw [if_pos (show nI 0 - 1 < 0 by decide)]
    refine kk h F1 _ _ ?_ (fun j hj => hF1 j (by omega)) hF2
    have e : S1 = rm_s S 0 (nI (T + N)) := by
      funext k
      unfold rm_s
      split
      next h9 => rw [h9, hS1]; congr 1
      next h9 => exact hS2 k h9
    rw [← e]; exact hm
  | succ r ih =>
    intro hr h F1 S1 z6 hm hS1 hS2 hF1 hF2
    rw [nI_pred]
    refine ia_go 2 rfl ?_
    rw [if_neg (nI_pos (by omega))]
    refine ia_go 1 rfl ?_
    refine ia_getf rfl hm.1.1 rfl ?_
    refine ia_go 2 rfl ?_
    refine ia_getf rfl hm.1.1 rfl ?_
    refine ia_go 6 rfl ?_
    refine ia_ldc2 rfl ?_
    refine ia_go 2 rfl ?_
    rw [hS1, show (10500 : Int32) + nI (T + (N - (r + 1))) = nI (10500 + (T + (N - (r + 1)))) from nI_add 10500 _]
    refine rm_st (K := 0) (x := ty_c w r) rfl hm (by decide) rfl (show 10500 + (T + (N - (r + 1))) < 10600 by omega) (by decide) (fun h1 hm => ?_)
    refine ia_go 2 rfl ?_
    refine ia_getf rfl hm.1.1 rfl ?_
    refine ia_go 2 rfl ?_
    rw [hS1, nI_1]
    refine rm_put (sk := 0) rfl hm rfl rfl (fun h1 hm => ?_)
    refine ia_go 1 rfl ?_
    dsimp only [ia_s1, ia_s2, ia_cl, ia_D, List.getElem?_cons_zero, List.getElem?_cons_succ, List.set_cons_zero, List.set_cons_succ]
    refine ia_go 1 rfl ?_
    rw [show nI r + Int32.ofInt (-1) = nI r - 1 by rw [Int32.sub_eq_add_neg]; rfl]
    refine ih (by omega) _ _ _ _ hm ?_ (fun k hk => ?_) (fun j hj => ?_) (fun k j hk => ?_)
    · show nI (T + (N - (r + 1)) + 1) = _; congr 1; omega
    · rw [show rm_s S1 0 _ k = S1 k from if_neg hk]; exact hS2 k hk
    · by_cases hjr : j = N - (r + 1)
      · rw [show 10500 + T + j = 10500 + (T + (N - (r + 1))) by omega, rm_uu]; congr 1; omega
      · rw [rm_un (by omega)]; exact hF1 j (by omega)
    · by_cases hk0 : k = 0
      · subst hk0
        rw [rm_un (by omega)]; exact hF2 0 j hk
      · rw [rm_uk hk0]; exact hF2 k j hk
end TYP
/-- type -/
theorem rm_type {G : ia_G} {h0 : ia_H} {d T : Nat} {n : Int32} {w : Int64} {F : Nat → Nat → Int32} {S : Nat → Int32} (hm0 : rm h0 F S) (hS : S 0 = nI T) (hT : T ≤ 60) : ia_Cn pg G kk_M_type d 0 0 [.ref 117, .long w, .int n] h0 (fun rv h' => ((¬ ∃ N, n = nI N ∧ 1 ≤ N ∧ N ≤ 8 ∧ ∀ i, i < N → ty_ok (ty_c w i)) ∧ rv = some (.int (-1)) ∧ h' = h0) ∨ ∃ N, n = nI N ∧ 1 ≤ N ∧ N ≤ 8 ∧ (∀ i, i < N → ty_ok (ty_c w i)) ∧ ((60 < T + N ∧ rv = some (.int (-3)) ∧ h' = h0) ∨ (T + N ≤ 60 ∧ rv = some (.int (nI (T + N))) ∧ ∃ F', rm_X h0 h' F' (rm_s S 0 (nI (T + N))) ∧ (∀ j, j < N → F' 0 (10500 + T + j) = ty_c w (N - 1 - j)) ∧ ∀ k j, k ≠ 0 ∨ j < 10500 + T ∨ 10500 + T + N ≤ j → F' k j = F k j))) := by
  have hm := hm0.X
  by_cases h1 : n < 1
  ·
    refine jd_met (ls := [.ref 117, .long w, .retAddr 0, .int n, .retAddr 0, .retAddr 0, .retAddr 0]) rfl rfl rfl ?_
    refine ia_go 3 rfl ?_
    rw [if_pos h1]
    refine ia_go 2 rfl ?_
    dsimp only [ia_s1, ia_s2, ia_cl, ia_D, List.getElem?_cons_zero, List.getElem?_cons_succ, List.set_cons_zero, List.set_cons_succ]
    refine ia_go 2 rfl ?_
    dsimp only [ia_s1, ia_s2, ia_cl, ia_D, List.getElem?_cons_zero, List.getElem?_cons_succ, List.set_cons_zero, List.set_cons_succ]
    have hno : ¬ ∃ N, n = nI N ∧ 1 ≤ N ∧ N ≤ 8 ∧ ∀ i, i < N → ty_ok (ty_c w i) := by
      rintro ⟨N, rfl, g1, g2, -⟩
      exact absurd h1 (nI_nlt (b := 1) g1 (by omega))
    refine ia_go 3 rfl ?_
    split
    ·
      refine ia_go 2 rfl ?_
      rw [if_neg (fun z => z rfl)]
      refine ia_go 1 rfl ?_
      exact jd_rv1 rfl rfl rfl trivial (Or.inl ⟨hno, rfl, rfl⟩)
    ·
      refine ia_go 2 rfl ?_
      rw [if_pos rfl]
      refine ia_go 2 rfl ?_
      rw [if_neg (fun z => z rfl)]
      refine ia_go 1 rfl ?_
      exact jd_rv1 rfl rfl rfl trivial (Or.inl ⟨hno, rfl, rfl⟩)
  by_cases h2 : 8 < n
  ·
    refine jd_met (ls := [.ref 117, .long w, .retAddr 0, .int n, .retAddr 0, .retAddr 0, .retAddr 0]) rfl rfl rfl ?_
    refine ia_go 3 rfl ?_
    rw [if_neg h1]
    refine ia_go 3 rfl ?_
    rw [if_pos h2]
    refine ia_go 2 rfl ?_
    dsimp only [ia_s1, ia_s2, ia_cl, ia_D, List.getElem?_cons_zero, List.getElem?_cons_succ, List.set_cons_zero, List.set_cons_succ]
    refine ia_go 2 rfl ?_
    dsimp only [ia_s1, ia_s2, ia_cl, ia_D, List.getElem?_cons_zero, List.getElem?_cons_succ, List.set_cons_zero, List.set_cons_succ]
    have hno : ¬ ∃ N, n = nI N ∧ 1 ≤ N ∧ N ≤ 8 ∧ ∀ i, i < N → ty_ok (ty_c w i) := by
      rintro ⟨N, rfl, g1, g2, -⟩
      exact absurd h2 (nI_nlt (a := 8) (by omega) (by omega))
    refine ia_go 3 rfl ?_
    split
    ·
      refine ia_go 2 rfl ?_
      rw [if_neg (fun z => z rfl)]
      refine ia_go 1 rfl ?_
      exact jd_rv1 rfl rfl rfl trivial (Or.inl ⟨hno, rfl, rfl⟩)
    ·
      refine ia_go 2 rfl ?_
      rw [if_pos rfl]
      refine ia_go 2 rfl ?_
      rw [if_neg (fun z => z rfl)]
      refine ia_go 1 rfl ?_
      exact jd_rv1 rfl rfl rfl trivial (Or.inl ⟨hno, rfl, rfl⟩)
  have h0n : ¬ n < 0 := fun z => h1 (Int32.lt_of_lt_of_le z (by decide))
  obtain ⟨N, hN8, rfl⟩ := nI_of2 (M := 8) (n := 8) (by decide) h0n (Int32.not_lt.mp h2)
  have hN1 : 1 ≤ N := by
    rcases Nat.eq_zero_or_pos N with e | e
    · subst e; exact absurd (by decide) h1
    · exact e
  refine jd_met (ls := [.ref 117, .long w, .retAddr 0, .int (nI N), .retAddr 0, .retAddr 0, .retAddr 0]) rfl rfl rfl ?_
  refine ia_go 3 rfl ?_
  rw [if_neg h1]
  refine ia_go 3 rfl ?_
  rw [if_neg h2]
  refine ia_go 3 rfl ?_
  dsimp only [ia_s1, ia_s2, ia_cl, ia_D, List.getElem?_cons_zero, List.getElem?_cons_succ, List.set_cons_zero, List.set_cons_succ]
  refine ia_go 2 rfl ?_
  dsimp only [ia_s1, ia_s2, ia_cl, ia_D, List.getElem?_cons_zero, List.getElem?_cons_succ, List.set_cons_zero, List.set_cons_succ]
  refine rm_tyloop1 hN8 (fun hb z5 z6 => ?_) (fun hg z5 z6 => ?_) N 0 (by omega) (fun i hi => by omega) _
  ·
    refine ia_go 2 rfl ?_
    rw [if_neg (fun z => z rfl)]
    refine ia_go 1 rfl ?_
    exact jd_rv1 rfl rfl rfl trivial (Or.inl ⟨fun ⟨M, e, _, _, g⟩ => by obtain ⟨i, hi, hb⟩ := hb; rw [nI_eq (by omega) (by omega)] at e; subst e; exact hb (g i hi), rfl, rfl⟩)
  · by_cases hf : T + N ≤ 60
    ·
      refine ia_go 2 rfl ?_
      rw [if_pos (by decide)]
      refine ia_go 1 rfl ?_
      refine ia_getf rfl hm.1.1 rfl ?_
      refine ia_go 4 rfl ?_
      rw [hS, nI_add]
      rw [if_pos (show nI (T + N) ≤ 60 from nI_le (b := 60) hf (by omega))]
      refine ia_go 4 rfl ?_
      dsimp only [ia_s1, ia_s2, ia_cl, ia_D, List.getElem?_cons_zero, List.getElem?_cons_succ, List.set_cons_zero, List.set_cons_succ]
      refine rm_tyloop2 (S := S) (F := F) (T := T) hf hN8 (fun h' F' z5 z6 hm' hF1 hF2 => ?_) N (Nat.le_refl _) h0 F S _ hm0.X (by rw [hS]; congr 1; omega) (fun _ _ => rfl) (fun j hj => by omega) (fun _ _ _ => rfl)
      refine ia_go 1 rfl ?_
      refine ia_getf rfl hm'.1.1 rfl ?_
      exact jd_rv1 rfl rfl rfl trivial (Or.inr ⟨N, rfl, hN1, hN8, hg, Or.inr ⟨hf, rfl, F', hm', hF1, hF2⟩⟩)
    ·
      refine ia_go 2 rfl ?_
      rw [if_pos (by decide)]
      refine ia_go 1 rfl ?_
      refine ia_getf rfl hm.1.1 rfl ?_
      refine ia_go 4 rfl ?_
      rw [hS, nI_add]
      rw [if_neg (show ¬ nI (T + N) ≤ 60 from nI_ge (a := 60) (by omega) (by omega))]
      refine ia_go 1 rfl ?_
      exact jd_rv1 rfl rfl rfl trivial (Or.inr ⟨N, rfl, hN1, hN8, hg, Or.inl ⟨by omega, rfl, rfl⟩⟩)
