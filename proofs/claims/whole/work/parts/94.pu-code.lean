/-! PURE: a node's code keeps within itself. -/
def ck (LW V : Nat → Nat) (L : List Nat) (e : Nat) (q : Nat × Nat × Nat) : Prop := (q.1 = 1 ∧ q.2.1 = V q.2.2 ∧ LW q.2.2 = 2 ∧ q.2.2 ∈ L) ∨ (q.1 = 2 ∧ q.2.1 ≤ e ∧ (LW q.2.2 = 4 ∨ LW q.2.2 = 5) ∧ q.2.2 ∈ L) ∨ (q.1 = 3 ∧ q.2.1 ≤ e)
theorem ck.mono {LW V : Nat → Nat} {L L' : List Nat} {e e' : Nat} {q : Nat × Nat × Nat} (h : ck LW V L e q) (hL : ∀ x, x ∈ L → x ∈ L') (he : e ≤ e') : ck LW V L' e' q := by
  rcases h with ⟨a, b, c, d⟩ | ⟨a, b, c, d⟩ | ⟨a, b⟩
  · exact Or.inl ⟨a, b, c, hL _ d⟩
  · exact Or.inr (Or.inl ⟨a, by omega, c, hL _ d⟩)
  · exact Or.inr (Or.inr ⟨a, by omega⟩)
theorem cd_ok (LW K1 K2 V : Nat → Nat) : ∀ (k n s : Nat) (q : Nat × Nat × Nat), q ∈ cd LW K1 K2 V k n s → ck LW V (nds LW K1 K2 k n) (s + (cd LW K1 K2 V k n s).length) q := by
  intro k
  induction k with
  | zero => intro n s q h; cases h
  | succ k ih =>
    intro n s q h
    unfold cd at h ⊢
    unfold nds
    by_cases l2 : LW n = 2
    · rw [if_pos l2] at h ⊢
      have e : q = (1, V n, n) := by simpa using h
      subst e
      exact Or.inl ⟨rfl, rfl, l2, List.mem_cons_self⟩
    rw [if_neg l2] at h ⊢
    by_cases l3 : LW n = 3
    · rw [if_pos l3] at h ⊢
      rw [if_pos (Or.inl l3)]
      rcases List.mem_append.mp h with h | h
      · exact (ih _ _ q h).mono (fun x hx => List.mem_cons_of_mem _ (List.mem_append_left _ hx)) (by simp only [List.length_append]; omega)
      · exact (ih _ _ q h).mono (fun x hx => List.mem_cons_of_mem _ (List.mem_append_right _ hx)) (by simp only [List.length_append]; omega)
    rw [if_neg l3] at h ⊢
    by_cases l4 : LW n = 4
    · rw [if_pos l4] at h ⊢
      rw [if_pos (Or.inr l4)]
      rcases List.mem_cons.mp h with h | h
      · subst h
        exact Or.inr (Or.inl ⟨rfl, by simp only [List.length_cons, List.length_append]; omega, Or.inl l4, List.mem_cons_self⟩)
      rcases List.mem_append.mp h with h | h
      · exact (ih _ _ q h).mono (fun x hx => List.mem_cons_of_mem _ (List.mem_append_left _ hx)) (by simp only [List.length_cons, List.length_append]; omega)
      rcases List.mem_cons.mp h with h | h
      · subst h
        exact Or.inr (Or.inr ⟨rfl, by simp only [List.length_cons, List.length_append]; omega⟩)
      · exact (ih _ _ q h).mono (fun x hx => List.mem_cons_of_mem _ (List.mem_append_right _ hx)) (by simp only [List.length_cons, List.length_append]; omega)
    rw [if_neg l4] at h ⊢
    rw [if_neg (show ¬ (LW n = 3 ∨ LW n = 4) by omega)]
    by_cases l5 : LW n = 5
    · rw [if_pos l5] at h ⊢
      rw [if_pos (show 3 ≤ LW n by omega)]
      rcases List.mem_cons.mp h with h | h
      · subst h
        exact Or.inr (Or.inl ⟨rfl, by simp only [List.length_cons, List.length_append, List.length_nil]; omega, Or.inr l5, List.mem_cons_self⟩)
      rcases List.mem_append.mp h with h | h
      · exact (ih _ _ q h).mono (fun x hx => List.mem_cons_of_mem _ hx) (by simp only [List.length_cons, List.length_append]; omega)
      · have e : q = (3, s, 0) := by simpa using h
        subst e
        exact Or.inr (Or.inr ⟨rfl, by simp only [List.length_cons]; omega⟩)
    rw [if_neg l5] at h ⊢
    by_cases l6 : 5 < LW n
    · rw [if_pos l6] at h ⊢
      rw [if_pos (show 3 ≤ LW n by omega)]
      exact (ih _ _ q h).mono (fun x hx => List.mem_cons_of_mem _ hx) (Nat.le_refl _)
    · rw [if_neg l6] at h; cases h
