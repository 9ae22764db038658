/-! THE REFERENCE, 11: the chain of parents; isInLoop, cameOf, isAsSaid. -/
/-- P: the parents, r: how far from the root -/
def tr (F : Nat → Nat → Int32) (P r : Nat → Nat) : Prop := P 0 = 0 ∧ ∀ n, 1 ≤ n → n ≤ 16 → F 2 n ≠ 0 → F 7 n = nI (P n) ∧ P n ≤ 16 ∧ (P n ≠ 0 → F 2 (P n) ≠ 0 ∧ r (P n) < r n)
/-- k steps up -/
def an (P : Nat → Nat) : Nat → Nat → Nat
  | 0, n => n
  | k + 1, n => an P k (P n)
theorem an0 {P : Nat → Nat} (h : P 0 = 0) (k : Nat) : an P k 0 = 0 := by
  induction k with
  | zero => rfl
  | succ k ih => show an P k (P 0) = 0; rw [h]; exact ih
/-- under a loop -/
def il (F : Nat → Nat → Int32) (P : Nat → Nat) (n : Nat) : Prop := ∃ k, 1 ≤ an P k n ∧ F 4 (an P k n) = 5
/-- m is one of n and the nodes above -/
def io (P : Nat → Nat) (n m : Nat) : Prop := ∃ k, 1 ≤ an P k n ∧ an P k n = m
theorem il_0 {F : Nat → Nat → Int32} {P : Nat → Nat} (h : P 0 = 0) : ¬ il F P 0 := by
  rintro ⟨k, h1, -⟩; rw [an0 h] at h1; omega
theorem il_s {F : Nat → Nat → Int32} {P : Nat → Nat} {n : Nat} (h : 1 ≤ n) : il F P n ↔ F 4 n = 5 ∨ il F P (P n) := by
  constructor
  · rintro ⟨k, h1, h2⟩
    cases k with
    | zero => exact Or.inl h2
    | succ k => exact Or.inr ⟨k, h1, h2⟩
  · rintro (h1 | ⟨k, h1, h2⟩)
    · exact ⟨0, h, h1⟩
    · exact ⟨k + 1, h1, h2⟩
theorem io_0 {P : Nat → Nat} {m : Nat} (h : P 0 = 0) : ¬ io P 0 m := by
  rintro ⟨k, h1, -⟩; rw [an0 h] at h1; omega
theorem io_s {P : Nat → Nat} {n m : Nat} (h : 1 ≤ n) : io P n m ↔ n = m ∨ io P (P n) m := by
  constructor
  · rintro ⟨k, h1, h2⟩
    cases k with
    | zero => exact Or.inl h2
    | succ k => exact Or.inr ⟨k, h1, h2⟩
  · rintro (h1 | ⟨k, h1, h2⟩)
    · exact ⟨0, h, h1⟩
    · exact ⟨k + 1, h1, h2⟩
theorem rm_illoop {G : ia_G} {h0 : ia_H} {d : Nat} {F : Nat → Nat → Int32} {S : Nat → Int32} {P r : Nat → Nat} {z : Int32} (hm : rm h0 F S) (ht : tr F P r) : ∀ (m p : Nat), p ≤ 16 → (p ≠ 0 → F 2 p ≠ 0 ∧ r p < m) → ∀ (b : Int32) (B : Prop), bn B b → ia_Sx pg G kk_M_isInLoop d 0 0 9 [.ref 117, .int z, .int b, .int (nI p)] [] h0 (fun rv h' => h' = h0 ∧ ∃ b, rv = some (.int b) ∧ bn (B ∨ il F P p) b) := by
  have hX := hm.X
  intro m
  induction m with
  | zero =>
    intro p hp hr b B hb
    obtain rfl : p = 0 := by
      rcases Nat.eq_zero_or_pos p with h | h
      · exact h
      · exact absurd (hr (by omega)).2 (Nat.not_lt_zero _)
    refine ia_go 2 rfl ?_
    rw [if_pos (by decide)]
    refine ia_go 1 rfl ?_
    refine jd_rv1 rfl rfl rfl ?_ ⟨rfl, b, rfl, hb.iff ⟨Or.inl, fun h => h.elim id (fun h => absurd h (il_0 ht.1))⟩⟩
    rcases hb with ⟨rfl, -⟩ | ⟨rfl, -⟩ <;> rfl
  | succ m ih =>
    intro p hp hr b B hb
    rcases Nat.eq_zero_or_pos p with h | hp1
    · exact ih p hp (fun z => absurd h z) b B hb
    obtain ⟨h2, h3⟩ := hr (by omega)
    obtain ⟨t1, t2, t3⟩ := ht.2 p hp1 hp h2
    have nxt : ∀ e : Int32, bn (B ∨ F 4 p = 5) e → ia_Sx pg G kk_M_isInLoop d 0 0 32 [.ref 117, .int z, .int b, .int (nI p)] [.int e] h0 (fun rv h' => h' = h0 ∧ ∃ b, rv = some (.int b) ∧ bn (B ∨ il F P p) b) := by
      intro e he
      refine ia_go 1 rfl ?_
      dsimp only [ia_s1, ia_s2, ia_cl, ia_D, List.getElem?_cons_zero, List.getElem?_cons_succ, List.set_cons_zero, List.set_cons_succ]
      refine ia_go 1 rfl ?_
      refine ia_getf rfl hm.1 rfl ?_
      refine ia_go 1 rfl ?_
      refine rm_ld (K := 7) rfl hX (by decide) rfl (show p < 17 by omega) (by decide) ?_
      rw [t1]
      refine ia_go 1 rfl ?_
      dsimp only [ia_s1, ia_s2, ia_cl, ia_D, List.getElem?_cons_zero, List.getElem?_cons_succ, List.set_cons_zero, List.set_cons_succ]
      refine ia_go 1 rfl ?_
      refine ia_Sx.mono (ih (P p) t2 (fun z => ⟨(t3 z).1, by have := (t3 z).2; omega⟩) e _ he) ?_
      rintro rv h' ⟨e1, b1, e2, e3⟩
      refine ⟨e1, b1, e2, e3.iff ?_⟩
      rw [il_s hp1, or_assoc]
    rcases hb with ⟨rfl, hB⟩ | ⟨rfl, hB⟩
    ·
      refine ia_go 2 rfl ?_
      rw [if_neg (show ¬ nI p ≤ 0 from nI_ge (a := 0) hp1 (by omega))]
      refine ia_go 2 rfl ?_
      rw [if_pos (by decide)]
      refine ia_go 2 rfl ?_
      exact nxt 1 (Or.inl ⟨rfl, Or.inl hB⟩)
    · by_cases h5 : F 4 p = 5
      ·
        refine ia_go 2 rfl ?_
        rw [if_neg (show ¬ nI p ≤ 0 from nI_ge (a := 0) hp1 (by omega))]
        refine ia_go 2 rfl ?_
        rw [if_neg (by decide)]
        refine ia_go 1 rfl ?_
        refine ia_getf rfl hm.1 rfl ?_
        refine ia_go 1 rfl ?_
        refine rm_ld (K := 4) rfl hX (by decide) rfl (show p < 17 by omega) (by decide) ?_
        refine ia_go 2 rfl ?_
        rw [if_neg (fun z => z h5)]
        refine ia_go 2 rfl ?_
        exact nxt 1 (Or.inl ⟨rfl, Or.inr h5⟩)
      ·
        refine ia_go 2 rfl ?_
        rw [if_neg (show ¬ nI p ≤ 0 from nI_ge (a := 0) hp1 (by omega))]
        refine ia_go 2 rfl ?_
        rw [if_neg (by decide)]
        refine ia_go 1 rfl ?_
        refine ia_getf rfl hm.1 rfl ?_
        refine ia_go 1 rfl ?_
        refine rm_ld (K := 4) rfl hX (by decide) rfl (show p < 17 by omega) (by decide) ?_
        refine ia_go 2 rfl ?_
        rw [if_pos h5]
        refine ia_go 1 rfl ?_
        exact nxt 0 (Or.inr ⟨rfl, fun z => z.elim hB h5⟩)
theorem rm_isInLoop {G : ia_G} {h0 : ia_H} {d n : Nat} {F : Nat → Nat → Int32} {S : Nat → Int32} {P r : Nat → Nat} (hm : rm h0 F S) (ht : tr F P r) (hn1 : 1 ≤ n) (hn : n ≤ 16) (hF : F 2 n ≠ 0) : ia_Cn pg G kk_M_isInLoop d 0 0 [.ref 117, .int (nI n)] h0 (fun rv h' => h' = h0 ∧ ∃ b, rv = some (.int b) ∧ bn (il F P (P n)) b) := by
  have hX := hm.X
  obtain ⟨t1, t2, t3⟩ := ht.2 n hn1 hn hF
  refine jd_met (ls := [.ref 117, .int (nI n), .retAddr 0, .retAddr 0]) rfl rfl rfl ?_
  refine ia_go 2 rfl ?_
  dsimp only [ia_s1, ia_s2, ia_cl, ia_D, List.getElem?_cons_zero, List.getElem?_cons_succ, List.set_cons_zero, List.set_cons_succ]
  refine ia_go 1 rfl ?_
  refine ia_getf rfl hm.1 rfl ?_
  refine ia_go 1 rfl ?_
  refine rm_ld (K := 7) rfl hX (by decide) rfl (show n < 17 by omega) (by decide) ?_
  rw [t1]
  refine ia_go 1 rfl ?_
  dsimp only [ia_s1, ia_s2, ia_cl, ia_D, List.getElem?_cons_zero, List.getElem?_cons_succ, List.set_cons_zero, List.set_cons_succ]
  refine ia_Sx.mono (rm_illoop hm ht (r (P n) + 1) (P n) t2 (fun z => ⟨(t3 z).1, by omega⟩) 0 False (Or.inr ⟨rfl, id⟩)) ?_
  rintro rv h' ⟨e1, b1, e2, e3⟩
  exact ⟨e1, b1, e2, e3.iff ⟨fun h => h.elim False.elim id, Or.inr⟩⟩
theorem rm_coloop {G : ia_G} {h0 : ia_H} {d q : Nat} {F : Nat → Nat → Int32} {S : Nat → Int32} {P r : Nat → Nat} {z : Int32} (hm : rm h0 F S) (ht : tr F P r) (hq : q ≤ 16) : ∀ (m p : Nat), p ≤ 16 → (p ≠ 0 → F 2 p ≠ 0 ∧ r p < m) → ∀ (b : Int32) (B : Prop), bn B b → ia_Sx pg G kk_M_cameOf d 0 0 10 [.ref 117, .int z, .int (nI q), .int b, .int (nI p)] [] h0 (fun rv h' => h' = h0 ∧ ∃ b, rv = some (.int b) ∧ bn (B ∨ io P p q) b) := by
  have hX := hm.X
  intro m
  induction m with
  | zero =>
    intro p hp hr b B hb
    obtain rfl : p = 0 := by
      rcases Nat.eq_zero_or_pos p with h | h
      · exact h
      · exact absurd (hr (by omega)).2 (Nat.not_lt_zero _)
    refine ia_go 2 rfl ?_
    rw [if_pos (by decide)]
    refine ia_go 1 rfl ?_
    refine jd_rv1 rfl rfl rfl ?_ ⟨rfl, b, rfl, hb.iff ⟨Or.inl, fun h => h.elim id (fun h => absurd h (io_0 ht.1))⟩⟩
    rcases hb with ⟨rfl, -⟩ | ⟨rfl, -⟩ <;> rfl
  | succ m ih =>
    intro p hp hr b B hb
    rcases Nat.eq_zero_or_pos p with h | hp1
    · exact ih p hp (fun z => absurd h z) b B hb
    obtain ⟨h2, h3⟩ := hr (by omega)
    obtain ⟨t1, t2, t3⟩ := ht.2 p hp1 hp h2
    have nxt : ∀ e : Int32, bn (B ∨ p = q) e → ia_Sx pg G kk_M_cameOf d 0 0 30 [.ref 117, .int z, .int (nI q), .int b, .int (nI p)] [.int e] h0 (fun rv h' => h' = h0 ∧ ∃ b, rv = some (.int b) ∧ bn (B ∨ io P p q) b) := by
      intro e he
      refine ia_go 1 rfl ?_
      dsimp only [ia_s1, ia_s2, ia_cl, ia_D, List.getElem?_cons_zero, List.getElem?_cons_succ, List.set_cons_zero, List.set_cons_succ]
      refine ia_go 1 rfl ?_
      refine ia_getf rfl hm.1 rfl ?_
      refine ia_go 1 rfl ?_
      refine rm_ld (K := 7) rfl hX (by decide) rfl (show p < 17 by omega) (by decide) ?_
      rw [t1]
      refine ia_go 1 rfl ?_
      dsimp only [ia_s1, ia_s2, ia_cl, ia_D, List.getElem?_cons_zero, List.getElem?_cons_succ, List.set_cons_zero, List.set_cons_succ]
      refine ia_go 1 rfl ?_
      refine ia_Sx.mono (ih (P p) t2 (fun z => ⟨(t3 z).1, by have := (t3 z).2; omega⟩) e _ he) ?_
      rintro rv h' ⟨e1, b1, e2, e3⟩
      refine ⟨e1, b1, e2, e3.iff ?_⟩
      rw [io_s hp1, or_assoc]
    rcases hb with ⟨rfl, hB⟩ | ⟨rfl, hB⟩
    ·
      refine ia_go 2 rfl ?_
      rw [if_neg (show ¬ nI p ≤ 0 from nI_ge (a := 0) hp1 (by omega))]
      refine ia_go 2 rfl ?_
      rw [if_pos (by decide)]
      refine ia_go 2 rfl ?_
      exact nxt 1 (Or.inl ⟨rfl, Or.inl hB⟩)
    · by_cases h5 : p = q
      ·
        refine ia_go 2 rfl ?_
        rw [if_neg (show ¬ nI p ≤ 0 from nI_ge (a := 0) hp1 (by omega))]
        refine ia_go 2 rfl ?_
        rw [if_neg (by decide)]
        refine ia_go 3 rfl ?_
        rw [if_neg (fun z => z (by rw [h5]))]
        refine ia_go 2 rfl ?_
        exact nxt 1 (Or.inl ⟨rfl, Or.inr h5⟩)
      ·
        refine ia_go 2 rfl ?_
        rw [if_neg (show ¬ nI p ≤ 0 from nI_ge (a := 0) hp1 (by omega))]
        refine ia_go 2 rfl ?_
        rw [if_neg (by decide)]
        refine ia_go 3 rfl ?_
        rw [if_pos (fun z => h5 ((nI_eq (by omega) (by omega)).mp z))]
        refine ia_go 1 rfl ?_
        exact nxt 0 (Or.inr ⟨rfl, fun z => z.elim hB h5⟩)
theorem rm_cameOf {G : ia_G} {h0 : ia_H} {d n q : Nat} {F : Nat → Nat → Int32} {S : Nat → Int32} {P r : Nat → Nat} (hm : rm h0 F S) (ht : tr F P r) (hq : q ≤ 16) (hn1 : 1 ≤ n) (hn : n ≤ 16) (hF : F 2 n ≠ 0) : ia_Cn pg G kk_M_cameOf d 0 0 [.ref 117, .int (nI n), .int (nI q)] h0 (fun rv h' => h' = h0 ∧ ∃ b, rv = some (.int b) ∧ bn (io P (P n) q) b) := by
  have hX := hm.X
  obtain ⟨t1, t2, t3⟩ := ht.2 n hn1 hn hF
  refine jd_met (ls := [.ref 117, .int (nI n), .int (nI q), .retAddr 0, .retAddr 0]) rfl rfl rfl ?_
  refine ia_go 2 rfl ?_
  dsimp only [ia_s1, ia_s2, ia_cl, ia_D, List.getElem?_cons_zero, List.getElem?_cons_succ, List.set_cons_zero, List.set_cons_succ]
  refine ia_go 1 rfl ?_
  refine ia_getf rfl hm.1 rfl ?_
  refine ia_go 1 rfl ?_
  refine rm_ld (K := 7) rfl hX (by decide) rfl (show n < 17 by omega) (by decide) ?_
  rw [t1]
  refine ia_go 1 rfl ?_
  dsimp only [ia_s1, ia_s2, ia_cl, ia_D, List.getElem?_cons_zero, List.getElem?_cons_succ, List.set_cons_zero, List.set_cons_succ]
  refine ia_Sx.mono (rm_coloop hm ht hq (r (P n) + 1) (P n) t2 (fun z => ⟨(t3 z).1, by omega⟩) 0 False (Or.inr ⟨rfl, id⟩)) ?_
  rintro rv h' ⟨e1, b1, e2, e3⟩
  exact ⟨e1, b1, e2, e3.iff ⟨fun h => h.elim False.elim id, Or.inr⟩⟩
/-- what the laws ask for -/
def sd (F : Nat → Nat → Int32) (P : Nat → Nat) (f0 f1 e : List Int32) (n w : Nat) (v : Int32) : Prop :=
  (w = 2 → (0 ≤ v ∧ v ≤ 2 ∧ F 3 n >>> (v &&& 31) &&& 1 = 1) ∧ ¬ 120 ∈ e) ∧ (w = 4 → ¬ 120 ∈ f0) ∧ (w = 5 → ¬ 120 ∈ f1 ∧ ¬ il F P (P n)) ∧ (w = 8 → (0 ≤ v ∧ v ≤ 7) ∧ v &&& (F 3 n ^^^ -1) = 0)
theorem rm_isAsSaid {G : ia_G} {h0 : ia_H} {d n w : Nat} {v : Int32} {F : Nat → Nat → Int32} {S : Nat → Int32} {P r : Nat → Nat} {f0 f1 e : List Int32} (hd : 1 ≤ d) (hm : rm h0 F S) (ht : tr F P r) (hn1 : 1 ≤ n) (hn : n ≤ 16) (hF : F 2 n ≠ 0) (hq0 : tm_s F 0 f0) (hq1 : tm_s F 1 f1) (hq3 : tm_s F 3 e) (hw1 : 1 ≤ w) (hw8 : w ≤ 8) : ia_Cn pg G kk_M_isAsSaid d 0 0 [.ref 117, .int (nI n), .int (nI w), .int v] h0 (fun rv h' => h' = h0 ∧ ∃ b, rv = some (.int b) ∧ bn (sd F P f0 f1 e n w v) b) := by
  have hX := hm.X
  have hw : w = 2 ∨ w = 4 ∨ w = 5 ∨ w = 8 ∨ (w ≠ 2 ∧ w ≠ 4 ∧ w ≠ 5 ∧ w ≠ 8) := by omega
  rcases hw with rfl | rfl | rfl | rfl | ⟨n2, n4, n5, n8⟩
  · have key : sd F P f0 f1 e n 2 v ↔ (0 ≤ v ∧ v ≤ 2 ∧ F 3 n >>> (v &&& 31) &&& 1 = 1) ∧ ¬ 120 ∈ e := ⟨fun h => h.1 rfl, fun h => ⟨fun _ => h, fun z => absurd z (by decide), fun z => absurd z (by decide), fun z => absurd z (by decide)⟩⟩
    by_cases a1 : v < 0
    ·
      refine jd_met (ls := [.ref 117, .int (nI n), .int (nI 2), .int v]) rfl rfl rfl ?_
      refine ia_go 3 rfl ?_
      rw [if_neg (fun z => z rfl)]
      refine ia_go 2 rfl ?_
      rw [if_pos a1]
      refine ia_go 1 rfl ?_
      exact jd_rv1 rfl rfl rfl rfl ⟨rfl, 0, rfl, Or.inr ⟨rfl, fun z => absurd a1 (Int32.not_lt.mpr (key.mp z).1.1)⟩⟩
    by_cases a2 : 2 < v
    ·
      refine jd_met (ls := [.ref 117, .int (nI n), .int (nI 2), .int v]) rfl rfl rfl ?_
      refine ia_go 3 rfl ?_
      rw [if_neg (fun z => z rfl)]
      refine ia_go 2 rfl ?_
      rw [if_neg a1]
      refine ia_go 3 rfl ?_
      rw [if_pos a2]
      refine ia_go 1 rfl ?_
      exact jd_rv1 rfl rfl rfl rfl ⟨rfl, 0, rfl, Or.inr ⟨rfl, fun z => absurd a2 (Int32.not_lt.mpr (key.mp z).1.2.1)⟩⟩
    by_cases a3 : F 3 n >>> (v &&& 31) &&& 1 = 1
    case neg =>
      refine jd_met (ls := [.ref 117, .int (nI n), .int (nI 2), .int v]) rfl rfl rfl ?_
      refine ia_go 3 rfl ?_
      rw [if_neg (fun z => z rfl)]
      refine ia_go 2 rfl ?_
      rw [if_neg a1]
      refine ia_go 3 rfl ?_
      rw [if_neg a2]
      refine ia_go 1 rfl ?_
      refine ia_getf rfl hm.1 rfl ?_
      refine ia_go 1 rfl ?_
      refine rm_ld (K := 3) rfl hX (by decide) rfl (show n < 17 by omega) (by decide) ?_
      refine ia_go 6 rfl ?_
      rw [if_pos a3]
      refine ia_go 1 rfl ?_
      exact jd_rv1 rfl rfl rfl rfl ⟨rfl, 0, rfl, Or.inr ⟨rfl, fun z => a3 (key.mp z).1.2.2⟩⟩
    refine jd_met (ls := [.ref 117, .int (nI n), .int (nI 2), .int v]) rfl rfl rfl ?_
    refine ia_go 3 rfl ?_
    rw [if_neg (fun z => z rfl)]
    refine ia_go 2 rfl ?_
    rw [if_neg a1]
    refine ia_go 3 rfl ?_
    rw [if_neg a2]
    refine ia_go 1 rfl ?_
    refine ia_getf rfl hm.1 rfl ?_
    refine ia_go 1 rfl ?_
    refine rm_ld (K := 3) rfl hX (by decide) rfl (show n < 17 by omega) (by decide) ?_
    refine ia_go 6 rfl ?_
    rw [if_neg (fun z => z a3)]
    refine ia_go 3 rfl ?_
    refine jd_cV 117 [.int (nI 3), .int 120] [] 0 0 (d' := d - 1) rfl rfl rfl hm.1 rfl rfl (by omega) (by omega) (by omega) (rm_slotHas hm (by omega) hq3) ?_
    rintro rv h' ⟨rfl, ⟨rfl, a4⟩ | ⟨rfl, a4⟩⟩
    ·
      refine ia_go 1 rfl ?_
      rw [if_neg (by decide)]
      refine ia_go 2 rfl ?_
      exact jd_rv1 rfl rfl rfl rfl ⟨rfl, 1, rfl, Or.inl ⟨rfl, key.mpr ⟨⟨Int32.not_lt.mp a1, Int32.not_lt.mp a2, a3⟩, a4⟩⟩⟩
    ·
      refine ia_go 1 rfl ?_
      rw [if_pos (by decide)]
      refine ia_go 1 rfl ?_
      exact jd_rv1 rfl rfl rfl rfl ⟨rfl, 0, rfl, Or.inr ⟨rfl, fun z => (key.mp z).2 a4⟩⟩
  · have key : sd F P f0 f1 e n 4 v ↔ ¬ 120 ∈ f0 := ⟨fun h => h.2.1 rfl, fun h => ⟨fun z => absurd z (by decide), fun _ => h, fun z => absurd z (by decide), fun z => absurd z (by decide)⟩⟩
    refine jd_met (ls := [.ref 117, .int (nI n), .int (nI 4), .int v]) rfl rfl rfl ?_
    refine ia_go 3 rfl ?_
    rw [if_pos (by decide)]
    refine ia_go 3 rfl ?_
    rw [if_neg (fun z => z rfl)]
    refine ia_go 3 rfl ?_
    refine jd_cV 117 [.int (nI 0), .int 120] [] 0 0 (d' := d - 1) rfl rfl rfl hm.1 rfl rfl (by omega) (by omega) (by omega) (rm_slotHas hm (by omega) hq0) ?_
    rintro rv h' ⟨rfl, ⟨rfl, a4⟩ | ⟨rfl, a4⟩⟩
    ·
      refine ia_go 1 rfl ?_
      rw [if_neg (by decide)]
      refine ia_go 2 rfl ?_
      exact jd_rv1 rfl rfl rfl rfl ⟨rfl, 1, rfl, Or.inl ⟨rfl, key.mpr a4⟩⟩
    ·
      refine ia_go 1 rfl ?_
      rw [if_pos (by decide)]
      refine ia_go 1 rfl ?_
      exact jd_rv1 rfl rfl rfl rfl ⟨rfl, 0, rfl, Or.inr ⟨rfl, fun z => key.mp z a4⟩⟩
  · have key : sd F P f0 f1 e n 5 v ↔ ¬ 120 ∈ f1 ∧ ¬ il F P (P n) := ⟨fun h => h.2.2.1 rfl, fun h => ⟨fun z => absurd z (by decide), fun z => absurd z (by decide), fun _ => h, fun z => absurd z (by decide)⟩⟩
    refine jd_met (ls := [.ref 117, .int (nI n), .int (nI 5), .int v]) rfl rfl rfl ?_
    refine ia_go 3 rfl ?_
    rw [if_pos (by decide)]
    refine ia_go 3 rfl ?_
    rw [if_pos (by decide)]
    refine ia_go 3 rfl ?_
    rw [if_neg (fun z => z rfl)]
    refine ia_go 3 rfl ?_
    refine jd_cV 117 [.int (nI 1), .int 120] [] 0 0 (d' := d - 1) rfl rfl rfl hm.1 rfl rfl (by omega) (by omega) (by omega) (rm_slotHas hm (by omega) hq1) ?_
    rintro rv h' ⟨rfl, ⟨rfl, a4⟩ | ⟨rfl, a4⟩⟩
    ·
      refine ia_go 1 rfl ?_
      rw [if_neg (by decide)]
      refine ia_go 2 rfl ?_
      refine jd_cV 117 [.int (nI n)] [] 0 0 (d' := d - 1) rfl rfl rfl hm.1 rfl rfl (by omega) (by omega) (by omega) (rm_isInLoop hm ht hn1 hn hF) ?_
      rintro rv h' ⟨rfl, b, rfl, ⟨rfl, a5⟩ | ⟨rfl, a5⟩⟩
      ·
        refine ia_go 1 rfl ?_
        rw [if_pos (by decide)]
        refine ia_go 1 rfl ?_
        exact jd_rv1 rfl rfl rfl rfl ⟨rfl, 0, rfl, Or.inr ⟨rfl, fun z => (key.mp z).2 a5⟩⟩
      ·
        refine ia_go 1 rfl ?_
        rw [if_neg (by decide)]
        refine ia_go 2 rfl ?_
        exact jd_rv1 rfl rfl rfl rfl ⟨rfl, 1, rfl, Or.inl ⟨rfl, key.mpr ⟨a4, a5⟩⟩⟩
    ·
      refine ia_go 1 rfl ?_
      rw [if_pos (by decide)]
      refine ia_go 1 rfl ?_
      exact jd_rv1 rfl rfl rfl rfl ⟨rfl, 0, rfl, Or.inr ⟨rfl, fun z => (key.mp z).1 a4⟩⟩
  · have key : sd F P f0 f1 e n 8 v ↔ (0 ≤ v ∧ v ≤ 7) ∧ v &&& (F 3 n ^^^ -1) = 0 := ⟨fun h => h.2.2.2 rfl, fun h => ⟨fun z => absurd z (by decide), fun z => absurd z (by decide), fun z => absurd z (by decide), fun _ => h⟩⟩
    by_cases a1 : v < 0
    ·
      refine jd_met (ls := [.ref 117, .int (nI n), .int (nI 8), .int v]) rfl rfl rfl ?_
      refine ia_go 3 rfl ?_
      rw [if_pos (by decide)]
      refine ia_go 3 rfl ?_
      rw [if_pos (by decide)]
      refine ia_go 3 rfl ?_
      rw [if_pos (by decide)]
      refine ia_go 3 rfl ?_
      rw [if_neg (fun z => z rfl)]
      refine ia_go 2 rfl ?_
      rw [if_pos a1]
      refine ia_go 1 rfl ?_
      exact jd_rv1 rfl rfl rfl rfl ⟨rfl, 0, rfl, Or.inr ⟨rfl, fun z => absurd a1 (Int32.not_lt.mpr (key.mp z).1.1)⟩⟩
    by_cases a2 : 7 < v
    ·
      refine jd_met (ls := [.ref 117, .int (nI n), .int (nI 8), .int v]) rfl rfl rfl ?_
      refine ia_go 3 rfl ?_
      rw [if_pos (by decide)]
      refine ia_go 3 rfl ?_
      rw [if_pos (by decide)]
      refine ia_go 3 rfl ?_
      rw [if_pos (by decide)]
      refine ia_go 3 rfl ?_
      rw [if_neg (fun z => z rfl)]
      refine ia_go 2 rfl ?_
      rw [if_neg a1]
      refine ia_go 3 rfl ?_
      rw [if_pos a2]
      refine ia_go 1 rfl ?_
      exact jd_rv1 rfl rfl rfl rfl ⟨rfl, 0, rfl, Or.inr ⟨rfl, fun z => absurd a2 (Int32.not_lt.mpr (key.mp z).1.2)⟩⟩
    by_cases a3 : v &&& (F 3 n ^^^ -1) = 0
    case neg =>
      refine jd_met (ls := [.ref 117, .int (nI n), .int (nI 8), .int v]) rfl rfl rfl ?_
      refine ia_go 3 rfl ?_
      rw [if_pos (by decide)]
      refine ia_go 3 rfl ?_
      rw [if_pos (by decide)]
      refine ia_go 3 rfl ?_
      rw [if_pos (by decide)]
      refine ia_go 3 rfl ?_
      rw [if_neg (fun z => z rfl)]
      refine ia_go 2 rfl ?_
      rw [if_neg a1]
      refine ia_go 3 rfl ?_
      rw [if_neg a2]
      refine ia_go 2 rfl ?_
      refine ia_getf rfl hm.1 rfl ?_
      refine ia_go 1 rfl ?_
      refine rm_ld (K := 3) rfl hX (by decide) rfl (show n < 17 by omega) (by decide) ?_
      refine ia_go 4 rfl ?_
      rw [if_pos a3]
      refine ia_go 1 rfl ?_
      exact jd_rv1 rfl rfl rfl rfl ⟨rfl, 0, rfl, Or.inr ⟨rfl, fun z => a3 (key.mp z).2⟩⟩
    refine jd_met (ls := [.ref 117, .int (nI n), .int (nI 8), .int v]) rfl rfl rfl ?_
    refine ia_go 3 rfl ?_
    rw [if_pos (by decide)]
    refine ia_go 3 rfl ?_
    rw [if_pos (by decide)]
    refine ia_go 3 rfl ?_
    rw [if_pos (by decide)]
    refine ia_go 3 rfl ?_
    rw [if_neg (fun z => z rfl)]
    refine ia_go 2 rfl ?_
    rw [if_neg a1]
    refine ia_go 3 rfl ?_
    rw [if_neg a2]
    refine ia_go 2 rfl ?_
    refine ia_getf rfl hm.1 rfl ?_
    refine ia_go 1 rfl ?_
    refine rm_ld (K := 3) rfl hX (by decide) rfl (show n < 17 by omega) (by decide) ?_
    refine ia_go 4 rfl ?_
    rw [if_neg (fun z => z a3)]
    refine ia_go 2 rfl ?_
    exact jd_rv1 rfl rfl rfl rfl ⟨rfl, 1, rfl, Or.inl ⟨rfl, key.mpr ⟨⟨Int32.not_lt.mp a1, Int32.not_lt.mp a2⟩, a3⟩⟩⟩
  ·
    refine jd_met (ls := [.ref 117, .int (nI n), .int (nI w), .int v]) rfl rfl rfl ?_
    refine ia_go 3 rfl ?_
    rw [if_pos (show ¬ nI w = 2 from fun z => n2 ((nI_eq (b := 2) (by omega) (by decide)).mp z))]
    refine ia_go 3 rfl ?_
    rw [if_pos (show ¬ nI w = 4 from fun z => n4 ((nI_eq (b := 4) (by omega) (by decide)).mp z))]
    refine ia_go 3 rfl ?_
    rw [if_pos (show ¬ nI w = 5 from fun z => n5 ((nI_eq (b := 5) (by omega) (by decide)).mp z))]
    refine ia_go 3 rfl ?_
    rw [if_pos (show ¬ nI w = 8 from fun z => n8 ((nI_eq (b := 8) (by omega) (by decide)).mp z))]
    refine ia_go 2 rfl ?_
    exact jd_rv1 rfl rfl rfl rfl ⟨rfl, 1, rfl, Or.inl ⟨rfl, fun z => absurd z n2, fun z => absurd z n4, fun z => absurd z n5, fun z => absurd z n8⟩⟩
