/-! THE REFERENCE, 22: openOf, open, first, node, text, after. -/
theorem ia_tsw {P : ia_P} {G : ia_G} {k d bc bs pc : Nat} {ls st : List Value} {h : ia_H} {Post : Option Value → ia_H → Prop} {dd lo hi : Int} {offs : Array Int} {nx tg r2 : Nat} {cst : Value} {x : Int32} (hr : ia_row P k pc = some (.tableswitch dd lo hi offs, nx, tg, r2, cst)) (hx : x.toInt < lo ∨ hi < x.toInt) (h0 : (0 : Int) ≤ (pc : Int) + dd) (kk : ia_Sx P G k d bc bs (ia_jp pc dd) ls st h Post) : ia_Sx P G k d bc bs pc ls (.int x :: st) h Post := by
  refine ia_go1 hr ?_ kk
  show (if x.toInt < lo ∨ hi < x.toInt then (if (0 : Int) ≤ (pc : Int) + dd then some (ia_jp pc dd, ls, st) else none) else _) = _
  rw [if_pos hx, if_pos h0]
/-- how many are open at a node -/
def oo (F : Nat → Nat → Int32) (n : Nat) : Int32 := if F 4 n = 0 then 1 else if F 9 n = 0 then F 8 n else 0
theorem rm_openOf {G : ia_G} {h0 : ia_H} {d n : Nat} {F : Nat → Nat → Int32} {S : Nat → Int32} (hm : rm h0 F S) (hn : n ≤ 16) : ia_Cn pg G kk_M_openOf d 0 0 [.ref 117, .int (nI n)] h0 (fun rv h' => rv = some (.int (oo F n)) ∧ h' = h0) := by
  have hX := hm.X
  unfold oo
  by_cases h1 : F 4 n = 0
  · rw [if_pos h1]
    refine jd_met (ls := [.ref 117, .int (nI n)]) rfl rfl rfl ?_
    refine ia_go 1 rfl ?_
    refine ia_getf rfl hm.1 rfl ?_
    refine ia_go 1 rfl ?_
    refine rm_ld (K := 4) rfl hX (by decide) rfl (show n < 17 by omega) (by decide) ?_
    refine ia_go 1 rfl ?_
    rw [if_neg (fun z => z h1)]
    refine ia_go 2 rfl ?_
    exact jd_rv1 rfl rfl rfl trivial ⟨rfl, rfl⟩
  rw [if_neg h1]
  by_cases h2 : F 9 n = 0
  · rw [if_pos h2]
    refine jd_met (ls := [.ref 117, .int (nI n)]) rfl rfl rfl ?_
    refine ia_go 1 rfl ?_
    refine ia_getf rfl hm.1 rfl ?_
    refine ia_go 1 rfl ?_
    refine rm_ld (K := 4) rfl hX (by decide) rfl (show n < 17 by omega) (by decide) ?_
    refine ia_go 1 rfl ?_
    rw [if_pos h1]
    refine ia_go 1 rfl ?_
    refine ia_getf rfl hm.1 rfl ?_
    refine ia_go 1 rfl ?_
    refine rm_zld (K := 9) rfl hX (by decide) rfl (show n < 17 by omega) (by decide) ?_
    refine ia_go 1 rfl ?_
    rw [if_pos h2]
    refine ia_go 1 rfl ?_
    refine ia_getf rfl hm.1 rfl ?_
    refine ia_go 1 rfl ?_
    refine rm_ld (K := 8) rfl hX (by decide) rfl (show n < 17 by omega) (by decide) ?_
    exact jd_rv1 rfl rfl rfl trivial ⟨rfl, rfl⟩
  · rw [if_neg h2]
    refine jd_met (ls := [.ref 117, .int (nI n)]) rfl rfl rfl ?_
    refine ia_go 1 rfl ?_
    refine ia_getf rfl hm.1 rfl ?_
    refine ia_go 1 rfl ?_
    refine rm_ld (K := 4) rfl hX (by decide) rfl (show n < 17 by omega) (by decide) ?_
    refine ia_go 1 rfl ?_
    rw [if_pos h1]
    refine ia_go 1 rfl ?_
    refine ia_getf rfl hm.1 rfl ?_
    refine ia_go 1 rfl ?_
    refine rm_zld (K := 9) rfl hX (by decide) rfl (show n < 17 by omega) (by decide) ?_
    refine ia_go 1 rfl ?_
    rw [if_neg h2]
    refine ia_go 2 rfl ?_
    exact jd_rv1 rfl rfl rfl trivial ⟨rfl, rfl⟩
/-- the sum of what is open at the nodes up to i -/
def os (F : Nat → Nat → Int32) : Nat → Int32
  | 0 => 0
  | i + 1 => os F i + if F 2 (i + 1) = 0 then 0 else oo F (i + 1)
theorem rm_oploop {G : ia_G} {h0 : ia_H} {d : Nat} {F : Nat → Nat → Int32} {S : Nat → Int32} (hd : 1 ≤ d) (hm : rm h0 F S) : ∀ (r i : Nat), i + 1 + r = 17 → ia_Sx pg G kk_M_open d 0 0 4 [.ref 117, .int (os F i), .int (nI (i + 1))] [] h0 (fun rv h' => rv = some (.int (os F 16)) ∧ h' = h0) := by
  have hX := hm.X
  intro r
  induction r with
  | zero =>
    intro i hi
    obtain rfl : i = 16 := by omega
    refine ia_go 3 rfl ?_
    rw [if_pos (by decide)]
    refine ia_go 1 rfl ?_
    exact jd_rv1 rfl rfl rfl trivial ⟨rfl, rfl⟩
  | succ r ih =>
    intro i hi
    have nxt : ∀ e : Int32, e = (if F 2 (i + 1) = 0 then 0 else oo F (i + 1)) → ia_Sx pg G kk_M_open d 0 0 29 [.ref 117, .int (os F i), .int (nI (i + 1))] [.int e, .int (os F i)] h0 (fun rv h' => rv = some (.int (os F 16)) ∧ h' = h0) := by
      intro e he
      refine ia_go 2 rfl ?_
      dsimp only [ia_s1, ia_s2, ia_cl, ia_D, List.getElem?_cons_zero, List.getElem?_cons_succ, List.set_cons_zero, List.set_cons_succ]
      refine ia_go 1 rfl ?_
      dsimp only [ia_s1, ia_s2, ia_cl, ia_D, List.getElem?_cons_zero, List.getElem?_cons_succ, List.set_cons_zero, List.set_cons_succ]
      refine ia_go 1 rfl ?_
      rw [show nI (i + 1) + Int32.ofInt 1 = nI (i + 1 + 1) from nI_1 (i + 1), he]
      exact ih (i + 1) (by omega)
    by_cases h1 : F 2 (i + 1) = 0
    ·
      refine ia_go 3 rfl ?_
      rw [if_neg (show ¬ (17 : Int32) ≤ nI (i + 1) from nI_ge (b := 17) (by omega) (by omega))]
      refine ia_go 2 rfl ?_
      refine ia_getf rfl hm.1 rfl ?_
      refine ia_go 1 rfl ?_
      refine rm_zld (K := 2) rfl hX (by decide) rfl (show i + 1 < 17 by omega) (by decide) ?_
      refine ia_go 1 rfl ?_
      rw [if_pos h1]
      refine ia_go 1 rfl ?_
      exact nxt 0 (by rw [if_pos h1])
    ·
      refine ia_go 3 rfl ?_
      rw [if_neg (show ¬ (17 : Int32) ≤ nI (i + 1) from nI_ge (b := 17) (by omega) (by omega))]
      refine ia_go 2 rfl ?_
      refine ia_getf rfl hm.1 rfl ?_
      refine ia_go 1 rfl ?_
      refine rm_zld (K := 2) rfl hX (by decide) rfl (show i + 1 < 17 by omega) (by decide) ?_
      refine ia_go 1 rfl ?_
      rw [if_neg h1]
      refine ia_go 2 rfl ?_
      refine jd_cV 117 [.int (nI (i + 1))] [.int (os F i)] 0 0 (d' := d - 1) rfl rfl rfl hm.1 rfl rfl (by omega) (by omega) (by omega) (rm_openOf hm (by omega)) ?_
      rintro rv h9 ⟨rfl, hh⟩
      refine ia_go 1 rfl ?_
      subst hh
      exact nxt _ (by rw [if_neg h1])
theorem rm_open {G : ia_G} {h0 : ia_H} {d : Nat} {F : Nat → Nat → Int32} {S : Nat → Int32} (hd : 1 ≤ d) (hm : rm h0 F S) : ia_Cn pg G kk_M_open d 0 0 [.ref 117] h0 (fun rv h' => rv = some (.int (os F 16)) ∧ h' = h0) := by
  refine jd_met (ls := [.ref 117, .retAddr 0, .retAddr 0]) rfl rfl rfl ?_
  refine ia_go 2 rfl ?_
  dsimp only [ia_s1, ia_s2, ia_cl, ia_D, List.getElem?_cons_zero, List.getElem?_cons_succ, List.set_cons_zero, List.set_cons_succ]
  refine ia_go 2 rfl ?_
  dsimp only [ia_s1, ia_s2, ia_cl, ia_D, List.getElem?_cons_zero, List.getElem?_cons_succ, List.set_cons_zero, List.set_cons_succ]
  exact rm_oploop hd hm 16 0 (by omega)
/-- the first node at which something is open -/
def fs (F : Nat → Nat → Int32) : Nat → Nat → Int32
  | 0, _ => 0
  | r + 1, i => if F 2 i ≠ 0 ∧ 0 < oo F i then nI i else fs F r (i + 1)
theorem rm_fsloop {G : ia_G} {h0 : ia_H} {d : Nat} {F : Nat → Nat → Int32} {S : Nat → Int32} (hd : 1 ≤ d) (hm : rm h0 F S) : ∀ (r i : Nat), i + r = 17 → ia_Sx pg G kk_M_first d 0 0 2 [.ref 117, .int (nI i)] [] h0 (fun rv h' => rv = some (.int (fs F r i)) ∧ h' = h0) := by
  have hX := hm.X
  intro r
  induction r with
  | zero =>
    intro i hi
    obtain rfl : i = 17 := by omega
    refine ia_go 3 rfl ?_
    rw [if_pos (by decide)]
    refine ia_go 1 rfl ?_
    exact jd_rv1 rfl rfl rfl trivial ⟨rfl, rfl⟩
  | succ r ih =>
    intro i hi
    have nxt : ¬ (F 2 i ≠ 0 ∧ 0 < oo F i) → ia_Sx pg G kk_M_first d 0 0 27 [.ref 117, .int (nI i)] [] h0 (fun rv h' => rv = some (.int (fs F (r + 1) i)) ∧ h' = h0) := by
      intro hn
      unfold fs
      rw [if_neg hn]
      refine ia_go 1 rfl ?_
      dsimp only [ia_s1, ia_s2, ia_cl, ia_D, List.getElem?_cons_zero, List.getElem?_cons_succ, List.set_cons_zero, List.set_cons_succ]
      refine ia_go 1 rfl ?_
      rw [show nI i + Int32.ofInt 1 = nI (i + 1) from nI_1 i]
      exact ih (i + 1) (by omega)
    by_cases h1 : F 2 i = 0
    ·
      refine ia_go 3 rfl ?_
      rw [if_neg (show ¬ (17 : Int32) ≤ nI i from nI_ge (b := 17) (by omega) (by omega))]
      refine ia_go 1 rfl ?_
      refine ia_getf rfl hm.1 rfl ?_
      refine ia_go 1 rfl ?_
      refine rm_zld (K := 2) rfl hX (by decide) rfl (show i < 17 by omega) (by decide) ?_
      refine ia_go 1 rfl ?_
      rw [if_pos h1]
      exact nxt (fun z => z.1 h1)
    ·
      refine ia_go 3 rfl ?_
      rw [if_neg (show ¬ (17 : Int32) ≤ nI i from nI_ge (b := 17) (by omega) (by omega))]
      refine ia_go 1 rfl ?_
      refine ia_getf rfl hm.1 rfl ?_
      refine ia_go 1 rfl ?_
      refine rm_zld (K := 2) rfl hX (by decide) rfl (show i < 17 by omega) (by decide) ?_
      refine ia_go 1 rfl ?_
      rw [if_neg h1]
      refine ia_go 2 rfl ?_
      refine jd_cV 117 [.int (nI i)] [] 0 0 (d' := d - 1) rfl rfl rfl hm.1 rfl rfl (by omega) (by omega) (by omega) (rm_openOf hm (by omega)) ?_
      rintro rv h9 ⟨rfl, hh⟩
      subst hh
      by_cases h2 : oo F i ≤ 0
      ·
        refine ia_go 1 rfl ?_
        rw [if_pos h2]
        exact nxt (fun z => absurd z.2 (Int32.not_lt.mpr h2))
      ·
        refine ia_go 1 rfl ?_
        rw [if_neg h2]
        refine ia_go 1 rfl ?_
        exact jd_rv1 rfl rfl rfl trivial ⟨by unfold fs; rw [if_pos ⟨h1, Int32.not_le.mp h2⟩], rfl⟩
theorem rm_first {G : ia_G} {h0 : ia_H} {d : Nat} {F : Nat → Nat → Int32} {S : Nat → Int32} (hd : 1 ≤ d) (hm : rm h0 F S) : ia_Cn pg G kk_M_first d 0 0 [.ref 117] h0 (fun rv h' => rv = some (.int (fs F 16 1)) ∧ h' = h0) := by
  refine jd_met (ls := [.ref 117, .retAddr 0]) rfl rfl rfl ?_
  refine ia_go 2 rfl ?_
  dsimp only [ia_s1, ia_s2, ia_cl, ia_D, List.getElem?_cons_zero, List.getElem?_cons_succ, List.set_cons_zero, List.set_cons_succ]
  exact rm_fsloop hd hm 16 1 (by omega)
/-- what node answers -/
def ndv (F : Nat → Nat → Int32) (n : Nat) (y : Int32) : Int32 := if y = 0 then F 3 n else if y = 1 then F 4 n else if y = 2 then F 5 n else if y = 3 then F 6 n else if y = 4 then F 8 n else if y = 5 then (if oo F n = 0 then 1 else 0) else -1
theorem rm_node {G : ia_G} {h0 : ia_H} {d : Nat} {x y : Int32} {F : Nat → Nat → Int32} {S : Nat → Int32} (hd : 1 ≤ d) (hm : rm h0 F S) : ia_Cn pg G kk_M_node d 0 0 [.ref 117, .int x, .int y] h0 (fun rv h' => h' = h0 ∧ (((¬ ∃ n, 1 ≤ n ∧ n ≤ 16 ∧ x = nI n ∧ F 2 n ≠ 0) ∧ rv = some (.int (-1))) ∨ ∃ n, (1 ≤ n ∧ n ≤ 16 ∧ x = nI n ∧ F 2 n ≠ 0) ∧ rv = some (.int (ndv F n y)))) := by
  have hX := hm.X
  refine jd_met (ls := [.ref 117, .int x, .int y]) rfl rfl rfl ?_
  refine ia_go 2 rfl ?_
  refine jd_cV 117 [.int x] [] 0 0 (d' := d - 1) rfl rfl rfl hm.1 rfl rfl (by omega) (by omega) (by omega) (rm_isNode hm) ?_
  rintro rv h1 ⟨rfl, ⟨hno, rfl⟩ | ⟨n, hn1, hn, rfl, hF, rfl⟩⟩
  case inl =>
    refine ia_go 1 rfl ?_
    rw [if_neg (fun z => z rfl)]
    refine ia_go 1 rfl ?_
    exact jd_rv1 rfl rfl rfl trivial ⟨rfl, Or.inl ⟨hno, rfl⟩⟩
  by_cases hy : y < 0 ∨ 5 < y
  · have hv : ndv F n y = -1 := by
      have ne : ∀ k : Int32, 0 ≤ k → k ≤ 5 → ¬ y = k := by
        intro k h1 h2 e
        subst e
        rcases hy with h | h
        · exact absurd h (Int32.not_lt.mpr h1)
        · exact absurd h (Int32.not_lt.mpr h2)
      unfold ndv
      rw [if_neg (ne 0 (by decide) (by decide)), if_neg (ne 1 (by decide) (by decide)), if_neg (ne 2 (by decide) (by decide)), if_neg (ne 3 (by decide) (by decide)), if_neg (ne 4 (by decide) (by decide)), if_neg (ne 5 (by decide) (by decide))]
    refine ia_go 1 rfl ?_
    rw [if_pos (by decide)]
    refine ia_go 1 rfl ?_
    refine ia_tsw rfl (hy.imp (fun h => Int32.lt_iff_toInt_lt.mp h) (fun h => show (5 : Int32).toInt < y.toInt from Int32.lt_iff_toInt_lt.mp h)) (by decide) ?_
    refine ia_go 1 rfl ?_
    exact jd_rv1 rfl rfl rfl trivial ⟨rfl, Or.inr ⟨n, ⟨hn1, hn, rfl, hF⟩, by rw [hv]⟩⟩
  obtain ⟨j, hj, rfl⟩ := nI_of2 (x := y) (M := 5) (n := 5) (by decide) (fun z => hy (Or.inl z)) (Int32.not_lt.mp (fun z => hy (Or.inr z)))
  have hjs : j = 0 ∨ j = 1 ∨ j = 2 ∨ j = 3 ∨ j = 4 ∨ j = 5 := by omega
  rcases hjs with rfl | rfl | rfl | rfl | rfl | rfl
  ·
    refine ia_go 1 rfl ?_
    rw [if_pos (by decide)]
    refine ia_go 2 rfl ?_
    skip
    refine ia_go 1 rfl ?_
    refine ia_getf rfl hX.1.1 rfl ?_
    refine ia_go 1 rfl ?_
    refine rm_ld (K := 3) rfl hX (by decide) rfl (show n < 17 by omega) (by decide) ?_
    exact jd_rv1 rfl rfl rfl trivial ⟨rfl, Or.inr ⟨n, ⟨hn1, hn, rfl, hF⟩, rfl⟩⟩
  ·
    refine ia_go 1 rfl ?_
    rw [if_pos (by decide)]
    refine ia_go 2 rfl ?_
    skip
    refine ia_go 1 rfl ?_
    refine ia_getf rfl hX.1.1 rfl ?_
    refine ia_go 1 rfl ?_
    refine rm_ld (K := 4) rfl hX (by decide) rfl (show n < 17 by omega) (by decide) ?_
    exact jd_rv1 rfl rfl rfl trivial ⟨rfl, Or.inr ⟨n, ⟨hn1, hn, rfl, hF⟩, rfl⟩⟩
  ·
    refine ia_go 1 rfl ?_
    rw [if_pos (by decide)]
    refine ia_go 2 rfl ?_
    skip
    refine ia_go 1 rfl ?_
    refine ia_getf rfl hX.1.1 rfl ?_
    refine ia_go 1 rfl ?_
    refine rm_ld (K := 5) rfl hX (by decide) rfl (show n < 17 by omega) (by decide) ?_
    exact jd_rv1 rfl rfl rfl trivial ⟨rfl, Or.inr ⟨n, ⟨hn1, hn, rfl, hF⟩, rfl⟩⟩
  ·
    refine ia_go 1 rfl ?_
    rw [if_pos (by decide)]
    refine ia_go 2 rfl ?_
    skip
    refine ia_go 1 rfl ?_
    refine ia_getf rfl hX.1.1 rfl ?_
    refine ia_go 1 rfl ?_
    refine rm_ld (K := 6) rfl hX (by decide) rfl (show n < 17 by omega) (by decide) ?_
    exact jd_rv1 rfl rfl rfl trivial ⟨rfl, Or.inr ⟨n, ⟨hn1, hn, rfl, hF⟩, rfl⟩⟩
  ·
    refine ia_go 1 rfl ?_
    rw [if_pos (by decide)]
    refine ia_go 2 rfl ?_
    skip
    refine ia_go 1 rfl ?_
    refine ia_getf rfl hX.1.1 rfl ?_
    refine ia_go 1 rfl ?_
    refine rm_ld (K := 8) rfl hX (by decide) rfl (show n < 17 by omega) (by decide) ?_
    exact jd_rv1 rfl rfl rfl trivial ⟨rfl, Or.inr ⟨n, ⟨hn1, hn, rfl, hF⟩, rfl⟩⟩
  ·
    refine ia_go 1 rfl ?_
    rw [if_pos (by decide)]
    refine ia_go 2 rfl ?_
    skip
    refine ia_go 2 rfl ?_
    refine jd_cV 117 [.int (nI n)] [] 0 0 (d' := d - 1) rfl rfl rfl hX.1.1 rfl rfl (by omega) (by omega) (by omega) (rm_openOf hm (by omega)) ?_
    rintro rv h9 ⟨rfl, hh⟩
    subst hh
    by_cases h0 : oo F n = 0
    ·
      refine ia_go 1 rfl ?_
      rw [if_neg (fun z => z h0)]
      refine ia_go 2 rfl ?_
      exact jd_rv1 rfl rfl rfl trivial ⟨rfl, Or.inr ⟨n, ⟨hn1, hn, rfl, hF⟩, by show _ = some (Value.int (if oo F n = 0 then 1 else 0)); rw [if_pos h0]⟩⟩
    ·
      refine ia_go 1 rfl ?_
      rw [if_pos h0]
      refine ia_go 1 rfl ?_
      exact jd_rv1 rfl rfl rfl trivial ⟨rfl, Or.inr ⟨n, ⟨hn1, hn, rfl, hF⟩, by show _ = some (Value.int (if oo F n = 0 then 1 else 0)); rw [if_neg h0]⟩⟩
theorem rm_after {G : ia_G} {h0 : ia_H} {d : Nat} {x : Int32} {F : Nat → Nat → Int32} {S : Nat → Int32} (hm : rm h0 F S) : ia_Cn pg G kk_M_after d 0 0 [.ref 117, .int x] h0 (fun rv h' => h' = h0 ∧ (((¬ ∃ j, j < 4 ∧ x = nI j) ∧ rv = some (.int (-1))) ∨ ∃ j, j < 4 ∧ x = nI j ∧ rv = some (.int (F 23 j)))) := by
  have hX := hm.X
  by_cases h1 : x < 0
  ·
    refine jd_met (ls := [.ref 117, .int x]) rfl rfl rfl ?_
    refine ia_go 2 rfl ?_
    rw [if_pos h1]
    refine ia_go 1 rfl ?_
    exact jd_rv1 rfl rfl rfl trivial ⟨rfl, Or.inl ⟨by rintro ⟨j, hj, rfl⟩; exact absurd h1 (nI_pos (by omega)), rfl⟩⟩
  by_cases h2 : 3 < x
  ·
    refine jd_met (ls := [.ref 117, .int x]) rfl rfl rfl ?_
    refine ia_go 2 rfl ?_
    rw [if_neg h1]
    refine ia_go 3 rfl ?_
    rw [if_pos h2]
    refine ia_go 1 rfl ?_
    exact jd_rv1 rfl rfl rfl trivial ⟨rfl, Or.inl ⟨by rintro ⟨j, hj, rfl⟩; exact absurd h2 (nI_nlt (a := 3) (by omega) (by omega)), rfl⟩⟩
  obtain ⟨j, hj, rfl⟩ := nI_of2 (M := 3) (n := 3) (by decide) h1 (Int32.not_lt.mp h2)
  refine jd_met (ls := [.ref 117, .int (nI j)]) rfl rfl rfl ?_
  refine ia_go 2 rfl ?_
  rw [if_neg h1]
  refine ia_go 3 rfl ?_
  rw [if_neg h2]
  refine ia_go 1 rfl ?_
  refine ia_getf rfl hm.1 rfl ?_
  refine ia_go 1 rfl ?_
  refine rm_ld (K := 23) rfl hX (by decide) rfl (show j < 4 by omega) (by decide) ?_
  refine ia_go 1 rfl ?_
  exact jd_rv1 rfl rfl rfl trivial ⟨rfl, Or.inr ⟨j, by omega, rfl, rfl⟩⟩
