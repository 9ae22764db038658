/-! PURE: no node is more than 15 from the root. -/
/-- exact ranks -/
def kr (F : Nat → Nat → Int32) (P r : Nat → Nat) : Prop := ∀ n, 1 ≤ n → n ≤ 16 → F 2 n ≠ 0 → (P n = 0 ∧ r n = 0) ∨ ((1 ≤ P n ∧ P n ≤ 16 ∧ F 2 (P n) ≠ 0) ∧ r n = r (P n) + 1)
def ancl (P : Nat → Nat) : Nat → Nat → List Nat
  | 0, n => [n]
  | k + 1, n => n :: ancl P k (P n)
theorem ancl_ok {F : Nat → Nat → Int32} {P r : Nat → Nat} (h : kr F P r) : ∀ (k n : Nat), (1 ≤ n ∧ n ≤ 16 ∧ F 2 n ≠ 0) → r n = k → (∀ x, x ∈ ancl P k n → (1 ≤ x ∧ x ≤ 16 ∧ F 2 x ≠ 0) ∧ r x ≤ r n) ∧ (ancl P k n).Nodup ∧ (ancl P k n).length = k + 1 := by
  intro k
  induction k with
  | zero =>
    intro n hn hr
    refine ⟨fun x hx => ?_, List.nodup_cons.mpr ⟨by simp, List.nodup_nil⟩, rfl⟩
    have e : x = n := by simpa [ancl] using hx
    subst e
    exact ⟨hn, Nat.le_refl _⟩
  | succ k ih =>
    intro n hn hr
    rcases h n hn.1 hn.2.1 hn.2.2 with ⟨-, z⟩ | ⟨hp, z⟩
    · omega
    obtain ⟨a, b, c⟩ := ih (P n) hp (by omega)
    refine ⟨fun x hx => ?_, List.nodup_cons.mpr ⟨fun hm => ?_, b⟩, by simp [ancl, c]⟩
    · rcases List.mem_cons.mp hx with rfl | hx
      · exact ⟨hn, Nat.le_refl _⟩
      · obtain ⟨e1, e2⟩ := a x hx
        exact ⟨e1, by omega⟩
    · have := (a n hm).2
      omega
theorem kr_15 {F : Nat → Nat → Int32} {P r : Nat → Nat} (h : kr F P r) {n : Nat} (h1 : 1 ≤ n) (h2 : n ≤ 16) (h3 : F 2 n ≠ 0) : r n ≤ 15 := by
  obtain ⟨a, b, c⟩ := ancl_ok h (r n) n ⟨h1, h2, h3⟩ rfl
  have := ph 16 _ b (fun x hx => ⟨(a x hx).1.1, (a x hx).1.2.1⟩)
  omega
