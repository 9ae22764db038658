/-! THE REFERENCE, 24: the program: emit, later, putDown, between. -/
theorem rm_emit {G : ia_G} {h0 : ia_H} {d s : Nat} {a b c : Int32} {F : Nat → Nat → Int32} {S : Nat → Int32} (hm : rm h0 F S) (hS : S 4 = nI s) (hs : s < 80) : ia_Cn pg G kk_M_emit d 0 0 [.ref 117, .int a, .int b, .int c] h0 (fun rv h' => rv = some (.int (nI s)) ∧ rm_X h0 h' (rm_u (rm_u (rm_u F 18 s a) 19 s b) 20 s c) (rm_s S 4 (nI (s + 1)))) := by
  have hX := hm.X
  refine jd_met (ls := [.ref 117, .int a, .int b, .int c]) rfl rfl rfl ?_
  refine ia_go 1 rfl ?_
  refine ia_getf rfl hX.1.1 rfl ?_
  refine ia_go 1 rfl ?_
  refine ia_getf rfl hX.1.1 rfl ?_
  refine ia_go 1 rfl ?_
  rw [hS]
  refine rm_st (K := 18) rfl hX (by decide) rfl (show s < 80 from hs) (by decide) (fun h1 hX => ?_)
  refine ia_go 1 rfl ?_
  refine ia_getf rfl hX.1.1 rfl ?_
  refine ia_go 1 rfl ?_
  refine ia_getf rfl hX.1.1 rfl ?_
  refine ia_go 1 rfl ?_
  rw [hS]
  refine rm_st (K := 19) rfl hX (by decide) rfl (show s < 80 from hs) (by decide) (fun h1 hX => ?_)
  refine ia_go 1 rfl ?_
  refine ia_getf rfl hX.1.1 rfl ?_
  refine ia_go 1 rfl ?_
  refine ia_getf rfl hX.1.1 rfl ?_
  refine ia_go 1 rfl ?_
  rw [hS]
  refine rm_st (K := 20) rfl hX (by decide) rfl (show s < 80 from hs) (by decide) (fun h1 hX => ?_)
  refine ia_go 2 rfl ?_
  refine ia_getf rfl hX.1.1 rfl ?_
  refine ia_go 2 rfl ?_
  rw [hS, nI_1]
  refine rm_put (sk := 4) rfl hX rfl rfl (fun h1 hX => ?_)
  refine ia_go 1 rfl ?_
  refine ia_getf rfl hX.1.1 rfl ?_
  refine ia_go 2 rfl ?_
  rw [show rm_s S 4 (nI (s + 1)) 4 - 1 = nI s from jd_sub (a := s + 1) (b := 1) (by omega)]
  exact jd_rv1 rfl rfl rfl trivial ⟨rfl, hX⟩
theorem rm_later {G : ia_G} {h0 : ia_H} {d e : Nat} {a b : Int32} {F : Nat → Nat → Int32} {S : Nat → Int32} (hm : rm h0 F S) (hS : S 5 = nI e) (he : e < 80) : ia_Cn pg G kk_M_later d 0 0 [.ref 117, .int a, .int b] h0 (fun rv h' => rv = none ∧ rm_X h0 h' (rm_u (rm_u F 21 e a) 22 e b) (rm_s S 5 (nI (e + 1)))) := by
  have hX := hm.X
  refine jd_met (ls := [.ref 117, .int a, .int b]) rfl rfl rfl ?_
  refine ia_go 1 rfl ?_
  refine ia_getf rfl hX.1.1 rfl ?_
  refine ia_go 1 rfl ?_
  refine ia_getf rfl hX.1.1 rfl ?_
  refine ia_go 1 rfl ?_
  rw [hS]
  refine rm_st (K := 21) rfl hX (by decide) rfl (show e < 80 from he) (by decide) (fun h1 hX => ?_)
  refine ia_go 1 rfl ?_
  refine ia_getf rfl hX.1.1 rfl ?_
  refine ia_go 1 rfl ?_
  refine ia_getf rfl hX.1.1 rfl ?_
  refine ia_go 1 rfl ?_
  rw [hS]
  refine rm_st (K := 22) rfl hX (by decide) rfl (show e < 80 from he) (by decide) (fun h1 hX => ?_)
  refine ia_go 2 rfl ?_
  refine ia_getf rfl hX.1.1 rfl ?_
  refine ia_go 2 rfl ?_
  rw [hS, nI_1]
  refine rm_put (sk := 5) rfl hX rfl rfl (fun h1 hX => ?_)
  exact jd_rv0 rfl rfl rfl ⟨rfl, hX⟩
/-- the code of a node, from the instruction s on; k: how deep at most -/
def cd (LW K1 K2 V : Nat → Nat) : Nat → Nat → Nat → List (Nat × Nat × Nat)
  | 0, _, _ => []
  | k + 1, n, s =>
    if LW n = 2 then [(1, V n, n)]
    else if LW n = 3 then cd LW K1 K2 V k (K1 n) s ++ cd LW K1 K2 V k (K2 n) (s + (cd LW K1 K2 V k (K1 n) s).length)
    else if LW n = 4 then (2, s + 1 + (cd LW K1 K2 V k (K1 n) (s + 1)).length + 1, n) :: (cd LW K1 K2 V k (K1 n) (s + 1) ++ (3, s + 1 + (cd LW K1 K2 V k (K1 n) (s + 1)).length + 1 + (cd LW K1 K2 V k (K2 n) (s + 1 + (cd LW K1 K2 V k (K1 n) (s + 1)).length + 1)).length, 0) :: cd LW K1 K2 V k (K2 n) (s + 1 + (cd LW K1 K2 V k (K1 n) (s + 1)).length + 1))
    else if LW n = 5 then (2, s + 1 + (cd LW K1 K2 V k (K1 n) (s + 1)).length + 1, n) :: (cd LW K1 K2 V k (K1 n) (s + 1) ++ [(3, s, 0)])
    else if 5 < LW n then cd LW K1 K2 V k (K1 n) s
    else []
/-- this code lies from s on -/
def cr (F : Nat → Nat → Int32) (s : Nat) (C : List (Nat × Nat × Nat)) : Prop := ∀ i q, C[i]? = some q → F 18 (s + i) = nI q.1 ∧ F 19 (s + i) = nI q.2.1 ∧ F 20 (s + i) = nI q.2.2
theorem cr_nil {F : Nat → Nat → Int32} {s : Nat} : cr F s [] := fun i q h => by cases h
theorem cr_cons {F : Nat → Nat → Int32} {s : Nat} {q : Nat × Nat × Nat} {C : List (Nat × Nat × Nat)} : cr F s (q :: C) ↔ (F 18 s = nI q.1 ∧ F 19 s = nI q.2.1 ∧ F 20 s = nI q.2.2) ∧ cr F (s + 1) C := by
  constructor
  · intro h
    refine ⟨h 0 q rfl, fun i x hx => ?_⟩
    have := h (i + 1) x hx
    rw [show s + 1 + i = s + (i + 1) by omega]
    exact this
  · rintro ⟨h1, h2⟩ i x hx
    cases i with
    | zero => cases hx; exact h1
    | succ i =>
      have := h2 i x hx
      rw [show s + (i + 1) = s + 1 + i by omega]
      exact this
theorem cr_app {F : Nat → Nat → Int32} {s : Nat} {A B : List (Nat × Nat × Nat)} (ha : cr F s A) (hb : cr F (s + A.length) B) : cr F s (A ++ B) := by
  induction A generalizing s with
  | nil => exact hb
  | cons q A ih =>
    rw [List.cons_append, cr_cons]
    obtain ⟨h1, h2⟩ := cr_cons.mp ha
    exact ⟨h1, ih h2 (by rw [show s + 1 + A.length = s + (q :: A).length by simp; omega]; exact hb)⟩
theorem cr.keep {F F' : Nat → Nat → Int32} {s : Nat} {C : List (Nat × Nat × Nat)} (h : cr F s C) (hk : ∀ k j, 18 ≤ k → k ≤ 20 → s ≤ j → j < s + C.length → F' k j = F k j) : cr F' s C := fun i q hq => by
  have hi := (List.getElem?_eq_some_iff.mp hq).1
  obtain ⟨a, b, c⟩ := h i q hq
  rw [hk 18 _ (by omega) (by omega) (by omega) (by omega), hk 19 _ (by omega) (by omega) (by omega) (by omega), hk 20 _ (by omega) (by omega) (by omega) (by omega)]
  exact ⟨a, b, c⟩
/-- laws, children, variables of the nodes -/
def kd (F : Nat → Nat → Int32) (LW K1 K2 V r : Nat → Nat) : Prop := ∀ n, 1 ≤ n → n ≤ 16 → F 2 n ≠ 0 → (F 4 n = nI (LW n) ∧ LW n ≤ 8 ∧ r n ≤ 15) ∧ (LW n = 2 → F 10 n = nI (V n) ∧ V n ≤ 2) ∧ (3 ≤ LW n → F 5 n = nI (K1 n) ∧ (1 ≤ K1 n ∧ K1 n ≤ 16 ∧ F 2 (K1 n) ≠ 0) ∧ r n < r (K1 n)) ∧ (LW n = 3 ∨ LW n = 4 → F 6 n = nI (K2 n) ∧ (1 ≤ K2 n ∧ K2 n ≤ 16 ∧ F 2 (K2 n) ≠ 0) ∧ r n < r (K2 n))
theorem kd.keep {F F' : Nat → Nat → Int32} {LW K1 K2 V r : Nat → Nat} (h : kd F LW K1 K2 V r) (hf : ∀ k j, k < 18 → F' k j = F k j) : kd F' LW K1 K2 V r := by
  intro n h1 h2 h3
  have := h n h1 h2 (by rw [← hf 2 n (by decide)]; exact h3)
  rw [hf 4 n (by decide), hf 10 n (by decide), hf 5 n (by decide), hf 6 n (by decide), hf 2 (K1 n) (by decide), hf 2 (K2 n) (by decide)]
  exact this
