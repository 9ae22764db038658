/-! PURE: the program keeps within itself. -/
theorem pgm_cw {F : Nat → Nat → Int32} {LW K1 K2 V P r : Nat → Nat} {gt : Nat → List Int32} (h : kp F LW K1 K2 P r) (h1 : F 2 1 ≠ 0) (hV : ∀ n, 1 ≤ n → n ≤ 16 → F 2 n ≠ 0 → LW n = 2 → V n ≤ 2) (hg : ∀ n, 1 ≤ n → n ≤ 16 → F 2 n ≠ 0 → (LW n = 2 ∨ LW n = 4 ∨ LW n = 5) → tm_g F n (gt n) ∧ ∃ x, tx_f (gt n) [] = some [x]) : cw F (pgm LW K1 K2 V) gt := by
  have h32 := cd_32 (V := V) (k := 16) (s := 0) h (n := 1) (by omega) (by omega) h1
  have hlen : (pgm LW K1 K2 V).length = (cd LW K1 K2 V 16 1 0).length + 1 := by unfold pgm; simp
  refine ⟨by omega, fun a ha => ?_⟩
  by_cases hA : a < (cd LW K1 K2 V 16 1 0).length
  · have e : kn (pgm LW K1 K2 V) a = (cd LW K1 K2 V 16 1 0)[a] := by
      unfold kn pgm
      rw [List.getD_eq_getElem?_getD, List.getElem?_append_left hA, List.getElem?_eq_getElem hA]
      rfl
    have hq := cd_ok LW K1 K2 V 16 1 0 _ (List.getElem_mem hA)
    rw [← e] at hq
    rcases hq with ⟨q1, q2, q3, q4⟩ | ⟨q1, q2, q3, q4⟩ | ⟨q1, q2⟩
    · obtain ⟨⟨m1, m2, m3⟩, -⟩ := nds_up h 16 1 _ (by omega) (by omega) h1 q4
      exact Or.inr (Or.inl ⟨q1, by rw [q2]; exact hV _ m1 m2 m3 q3, by omega, m2, hg _ m1 m2 m3 (Or.inl q3)⟩)
    · obtain ⟨⟨m1, m2, m3⟩, -⟩ := nds_up h 16 1 _ (by omega) (by omega) h1 q4
      exact Or.inr (Or.inr (Or.inl ⟨q1, by omega, by omega, m2, hg _ m1 m2 m3 (Or.inr q3)⟩))
    · exact Or.inr (Or.inr (Or.inr ⟨q1, by omega⟩))
  · have ea : a = (cd LW K1 K2 V 16 1 0).length := by omega
    have e : kn (pgm LW K1 K2 V) a = (4, 0, 0) := by
      unfold kn pgm
      rw [List.getD_eq_getElem?_getD, List.getElem?_append_right (by omega), ea, Nat.sub_self]
      rfl
    rw [e]
    exact Or.inl rfl
