/-! PURE: the nodes under a node are all different. -/
theorem an_up {P : Nat → Nat} : ∀ (k m : Nat), an P (k + 1) m = P (an P k m) := by
  intro k
  induction k with
  | zero => intro m; rfl
  | succ k ih => intro m; exact ih (P m)
/-- children and parents agree -/
def kp (F : Nat → Nat → Int32) (LW K1 K2 P r : Nat → Nat) : Prop := ∀ n, 1 ≤ n → n ≤ 16 → F 2 n ≠ 0 → (3 ≤ LW n → (1 ≤ K1 n ∧ K1 n ≤ 16 ∧ F 2 (K1 n) ≠ 0) ∧ P (K1 n) = n ∧ r (K1 n) = r n + 1) ∧ (LW n = 3 ∨ LW n = 4 → (1 ≤ K2 n ∧ K2 n ≤ 16 ∧ F 2 (K2 n) ≠ 0) ∧ P (K2 n) = n ∧ r (K2 n) = r n + 1 ∧ K1 n ≠ K2 n)
theorem nds_up {F : Nat → Nat → Int32} {LW K1 K2 P r : Nat → Nat} (h : kp F LW K1 K2 P r) : ∀ (k n m : Nat), 1 ≤ n → n ≤ 16 → F 2 n ≠ 0 → m ∈ nds LW K1 K2 k n → (1 ≤ m ∧ m ≤ 16 ∧ F 2 m ≠ 0) ∧ r n ≤ r m ∧ an P (r m - r n) m = n := by
  intro k
  induction k with
  | zero => intro n m _ _ _ hm; cases hm
  | succ k ih =>
    intro n m h1 h2 h3 hm
    obtain ⟨a, b⟩ := h n h1 h2 h3
    have step : ∀ c, (1 ≤ c ∧ c ≤ 16 ∧ F 2 c ≠ 0) → P c = n → r c = r n + 1 → m ∈ nds LW K1 K2 k c → (1 ≤ m ∧ m ≤ 16 ∧ F 2 m ≠ 0) ∧ r n ≤ r m ∧ an P (r m - r n) m = n := by
      intro c hc hP hr hmc
      obtain ⟨e1, e2, e3⟩ := ih c m hc.1 hc.2.1 hc.2.2 hmc
      refine ⟨e1, by omega, ?_⟩
      rw [show r m - r n = r m - r c + 1 by omega, an_up, e3, hP]
    unfold nds at hm
    rcases List.mem_cons.mp hm with rfl | hm
    · exact ⟨⟨h1, h2, h3⟩, Nat.le_refl _, by rw [Nat.sub_self]; rfl⟩
    · split at hm
      next l34 =>
        obtain ⟨b1, b2, b3, -⟩ := b l34
        obtain ⟨a1, a2, a3⟩ := a (by omega)
        rcases List.mem_append.mp hm with hm | hm
        · exact step _ a1 a2 a3 hm
        · exact step _ b1 b2 b3 hm
      next =>
        split at hm
        next l3 =>
          obtain ⟨a1, a2, a3⟩ := a l3
          exact step _ a1 a2 a3 hm
        next => cases hm
theorem nds_nd {F : Nat → Nat → Int32} {LW K1 K2 P r : Nat → Nat} (h : kp F LW K1 K2 P r) : ∀ (k n : Nat), 1 ≤ n → n ≤ 16 → F 2 n ≠ 0 → (nds LW K1 K2 k n).Nodup := by
  intro k
  induction k with
  | zero => intro n _ _ _; exact List.nodup_nil
  | succ k ih =>
    intro n h1 h2 h3
    obtain ⟨a, b⟩ := h n h1 h2 h3
    unfold nds
    have no : ∀ c, (1 ≤ c ∧ c ≤ 16 ∧ F 2 c ≠ 0) → r c = r n + 1 → ¬ n ∈ nds LW K1 K2 k c := by
      intro c hc hr hm
      have := (nds_up h k c n hc.1 hc.2.1 hc.2.2 hm).2.1
      omega
    by_cases l34 : LW n = 3 ∨ LW n = 4
    · rw [if_pos l34]
      obtain ⟨b1, b2, b3, b4⟩ := b l34
      obtain ⟨a1, a2, a3⟩ := a (by omega)
      refine List.nodup_cons.mpr ⟨fun hm => ?_, List.nodup_append.mpr ⟨ih _ a1.1 a1.2.1 a1.2.2, ih _ b1.1 b1.2.1 b1.2.2, ?_⟩⟩
      · rcases List.mem_append.mp hm with hm | hm
        · exact no _ a1 a3 hm
        · exact no _ b1 b3 hm
      · intro x hx y hy e
        subst e
        obtain ⟨-, -, e1⟩ := nds_up h k _ x a1.1 a1.2.1 a1.2.2 hx
        obtain ⟨-, -, e2⟩ := nds_up h k _ x b1.1 b1.2.1 b1.2.2 hy
        rw [a3] at e1
        rw [b3] at e2
        exact b4 (e1.symm.trans e2)
    · rw [if_neg l34]
      by_cases l3 : 3 ≤ LW n
      · rw [if_pos l3]
        obtain ⟨a1, a2, a3⟩ := a l3
        exact List.nodup_cons.mpr ⟨no _ a1 a3, ih _ a1.1 a1.2.1 a1.2.2⟩
      · rw [if_neg l3]; exact List.nodup_cons.mpr ⟨by simp, List.nodup_nil⟩
/-- a node's code has at most 32 instructions -/
theorem cd_32 {F : Nat → Nat → Int32} {LW K1 K2 V P r : Nat → Nat} (h : kp F LW K1 K2 P r) {k n s : Nat} (h1 : 1 ≤ n) (h2 : n ≤ 16) (h3 : F 2 n ≠ 0) : (cd LW K1 K2 V k n s).length ≤ 32 := by
  have a := cd_len LW K1 K2 V k n s
  have b := ph 16 _ (nds_nd h k n h1 h2 h3) (fun x hx => by
    obtain ⟨⟨e1, e2, -⟩, -⟩ := nds_up h k n x h1 h2 h3 hx
    exact ⟨e1, e2⟩)
  omega
