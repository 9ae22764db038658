/-! PURE: different numbers out of 1 .. N are at most N; how long a node's code is. -/
theorem ph_f {l : List Nat} (a : Nat) (h : l.Nodup) : l.length ≤ (l.filter (fun x => x != a)).length + 1 := by
  induction l with
  | nil => simp
  | cons b l ih =>
    obtain ⟨h1, h2⟩ := List.nodup_cons.mp h
    by_cases hb : b = a
    · subst hb
      have : l.filter (fun x => x != b) = l := by
        rw [List.filter_eq_self]
        intro x hx
        have : x ≠ b := fun e => h1 (e ▸ hx)
        simpa using this
      simp [this]
    · have hb2 : (b != a) = true := by simpa using hb
      rw [show (b :: l).filter (fun x => x != a) = b :: l.filter (fun x => x != a) from List.filter_cons_of_pos (p := fun x => x != a) hb2]
      have := ih h2
      simp only [List.length_cons]
      omega
theorem ph : ∀ (N : Nat) (l : List Nat), l.Nodup → (∀ x, x ∈ l → 1 ≤ x ∧ x ≤ N) → l.length ≤ N := by
  intro N
  induction N with
  | zero =>
    intro l h hx
    cases l with
    | nil => simp
    | cons b l => have := hx b List.mem_cons_self; omega
  | succ N ih =>
    intro l h hx
    have h1 := ph_f (N + 1) h
    have h2 := ih (l.filter (fun x => x != N + 1)) (h.sublist List.filter_sublist) (fun x hm => by
      obtain ⟨m1, m2⟩ := List.mem_filter.mp hm
      have := hx x m1
      have : x ≠ N + 1 := by simpa using m2
      omega)
    omega
/-- the nodes under a node, itself among them -/
def nds (LW K1 K2 : Nat → Nat) : Nat → Nat → List Nat
  | 0, _ => []
  | k + 1, n => n :: (if LW n = 3 ∨ LW n = 4 then nds LW K1 K2 k (K1 n) ++ nds LW K1 K2 k (K2 n) else if 3 ≤ LW n then nds LW K1 K2 k (K1 n) else [])
theorem cd_len (LW K1 K2 V : Nat → Nat) : ∀ (k n s : Nat), (cd LW K1 K2 V k n s).length ≤ 2 * (nds LW K1 K2 k n).length := by
  intro k
  induction k with
  | zero => intro n s; exact Nat.zero_le _
  | succ k ih =>
    intro n s
    unfold cd nds
    by_cases l2 : LW n = 2
    · rw [if_pos l2]; simp only [List.length_cons, List.length_nil]; omega
    rw [if_neg l2]
    by_cases l3 : LW n = 3
    · rw [if_pos l3, if_pos (Or.inl l3)]
      have a := ih (K1 n) s
      have b := ih (K2 n) (s + (cd LW K1 K2 V k (K1 n) s).length)
      simp only [List.length_cons, List.length_append]; omega
    rw [if_neg l3]
    by_cases l4 : LW n = 4
    · rw [if_pos l4, if_pos (Or.inr l4)]
      have a := ih (K1 n) (s + 1)
      have b := ih (K2 n) (s + 1 + (cd LW K1 K2 V k (K1 n) (s + 1)).length + 1)
      simp only [List.length_cons, List.length_append]; omega
    rw [if_neg l4, if_neg (show ¬ (LW n = 3 ∨ LW n = 4) by omega)]
    by_cases l5 : LW n = 5
    · rw [if_pos l5, if_pos (show 3 ≤ LW n by omega)]
      have a := ih (K1 n) (s + 1)
      simp only [List.length_cons, List.length_append, List.length_nil]; omega
    rw [if_neg l5]
    by_cases l6 : 5 < LW n
    · rw [if_pos l6, if_pos (show 3 ≤ LW n by omega)]
      have a := ih (K1 n) s
      simp only [List.length_cons]; omega
    · rw [if_neg l6]; exact Nat.zero_le _
