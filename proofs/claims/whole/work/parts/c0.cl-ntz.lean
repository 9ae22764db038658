/-! THE JDK'S METHODS, 8: the lowest bit. -/
theorem lb_split {a p : Nat} (h1 : a.testBit p = true) (h2 : ∀ j, j < p → a.testBit j = false) : ∃ q, a = 2 ^ p * (2 * q + 1) := by
  have m : a % 2 ^ p = 0 := by
    apply Nat.eq_of_testBit_eq
    intro i
    rw [Nat.testBit_mod_two_pow, Nat.zero_testBit]
    by_cases hi : i < p
    · simp [hi, h2 i hi]
    · simp [hi]
  have o : a / 2 ^ p % 2 = 1 := by
    rw [Nat.testBit_eq_decide_div_mod_eq] at h1
    exact of_decide_eq_true h1
  refine ⟨a / 2 ^ p / 2, ?_⟩
  have e1 := Nat.div_add_mod a (2 ^ p)
  rw [m, Nat.add_zero] at e1
  have e2 := Nat.div_add_mod (a / 2 ^ p) 2
  rw [o] at e2
  rw [e2]
  exact e1.symm
theorem lb_eq {x : Int32} {p : Nat} (hp : p < 32) (h1 : x.toBitVec.getLsbD p = true) (h2 : ∀ j, j < p → x.toBitVec.getLsbD j = false) : (x ^^^ -1) &&& (x - 1) = nI (2 ^ p - 1) := by
  obtain ⟨q, hq⟩ := lb_split (a := x.toBitVec.toNat) h1 h2
  have pos : 1 ≤ x.toBitVec.toNat := by
    rw [hq]; exact Nat.mul_pos (Nat.pow_pos (by omega)) (by omega)
  have hlt := x.toBitVec.isLt
  have sub : (x - 1).toBitVec.toNat = x.toBitVec.toNat - 1 := by
    rw [Int32.toBitVec_sub, BitVec.toNat_sub]
    show (2 ^ 32 - 1 + x.toBitVec.toNat) % 2 ^ 32 = _
    omega
  have pw : 2 ^ p ≤ 2 ^ 31 := Nat.pow_le_pow_right (by omega) (by omega)
  have pp : 1 ≤ 2 ^ p := Nat.pow_pos (by omega)
  apply Int32.toBitVec_inj.mp
  apply BitVec.eq_of_getLsbD_eq
  intro i hi
  rw [Int32.toBitVec_and, Int32.toBitVec_xor, BitVec.getLsbD_and, BitVec.getLsbD_xor, show (-1 : Int32).toBitVec = BitVec.allOnes 32 by decide, BitVec.getLsbD_allOnes]
  have e1 : (x - 1).toBitVec.getLsbD i = (if i < p then true else (2 * q).testBit (i - p)) := by
    show (x - 1).toBitVec.toNat.testBit i = _
    rw [sub]; exact (bt_low hq i).1
  have e2 : x.toBitVec.getLsbD i = (if i < p then false else (2 * q + 1).testBit (i - p)) := (bt_low hq i).2
  have e3 : (nI (2 ^ p - 1)).toBitVec.getLsbD i = decide (i < p) := by
    show ((BitVec.ofNat 32 (2 ^ p - 1)).toNat).testBit i = _
    rw [BitVec.toNat_ofNat, Nat.mod_eq_of_lt (by omega), Nat.testBit_two_pow_sub_one]
  rw [e1, e2, e3]
  by_cases h : i < p
  · simp [h, hi]
  · rw [if_neg h, if_neg h]
    by_cases e : i - p = 0
    · rw [e]; simp [h, hi, Nat.testBit_zero]
    · obtain ⟨k, hk⟩ : ∃ k, i - p = k + 1 := ⟨i - p - 1, by omega⟩
      rw [hk, Nat.testBit_succ, Nat.testBit_succ, show (2 * q + 1) / 2 = q by omega, show 2 * q / 2 = q by omega]
      simp [h, hi]
theorem ab_6 : ∀ k : Fin 512, nI k.val >>> ((6 : Int32) &&& 31) = nI (k.val / 64) ∧ nI k.val >>> ((3 : Int32) &&& 31) &&& 7 = nI (k.val / 8 % 8) ∧ nI k.val &&& 7 = nI (k.val % 8) := by decide +kernel
theorem xz_3 : ∀ k : Fin 64, nI k.val >>> ((3 : Int32) &&& 31) = nI (k.val / 8) ∧ nI k.val &&& 7 = nI (k.val % 8) := by decide +kernel
theorem nz_16 : ∀ q : Fin 32, (17 ≤ q.val → (65536 : Int32) < nI (2 ^ q.val - 1) ∧ ((nI (2 ^ q.val - 1)).toUInt32 >>> ((16 : Int32).toUInt32 &&& Int32.toUInt32 31)).toInt32 = nI (2 ^ (q.val - 16) - 1)) ∧ (q.val ≤ 16 → nI (2 ^ q.val - 1) ≤ (65536 : Int32)) := by decide +kernel
theorem nz_8 : ∀ q : Fin 17, (9 ≤ q.val → (256 : Int32) < nI (2 ^ q.val - 1) ∧ ((nI (2 ^ q.val - 1)).toUInt32 >>> ((8 : Int32).toUInt32 &&& Int32.toUInt32 31)).toInt32 = nI (2 ^ (q.val - 8) - 1)) ∧ (q.val ≤ 8 → nI (2 ^ q.val - 1) ≤ (256 : Int32)) := by decide +kernel
theorem nz_4 : ∀ q : Fin 9, (5 ≤ q.val → (16 : Int32) < nI (2 ^ q.val - 1) ∧ ((nI (2 ^ q.val - 1)).toUInt32 >>> ((4 : Int32).toUInt32 &&& Int32.toUInt32 31)).toInt32 = nI (2 ^ (q.val - 4) - 1)) ∧ (q.val ≤ 4 → nI (2 ^ q.val - 1) ≤ (16 : Int32)) := by decide +kernel
theorem nz_2 : ∀ q : Fin 5, (3 ≤ q.val → (4 : Int32) < nI (2 ^ q.val - 1) ∧ ((nI (2 ^ q.val - 1)).toUInt32 >>> ((2 : Int32).toUInt32 &&& Int32.toUInt32 31)).toInt32 = nI (2 ^ (q.val - 2) - 1)) ∧ (q.val ≤ 2 → nI (2 ^ q.val - 1) ≤ (4 : Int32)) := by decide +kernel
theorem nz_1 : ((nI (2 ^ 1 - 1)).toUInt32 >>> ((1 : Int32).toUInt32 &&& Int32.toUInt32 31)).toInt32 = nI 0 ∧ ((nI (2 ^ 2 - 1)).toUInt32 >>> ((1 : Int32).toUInt32 &&& Int32.toUInt32 31)).toInt32 = nI 1 := by decide +kernel
section NZ
variable {G : ia_G} {h : ia_H} {d p : Nat}
theorem nz_74 {q : Nat} (q1 : 1 ≤ q) (q2 : q ≤ 2) (hq : q ≤ p) : ia_Sx pg G kk_in_numberOfTrailingZeros d 0 0 74 [.int (nI (2 ^ q - 1)), .int (nI (1 + (p - q)))] [] h (fun rv h' => rv = some (.int (nI p)) ∧ h' = h) := by
  rcases (show q = 1 ∨ q = 2 by omega) with rfl | rfl
  ·
    refine ia_go 4 rfl ?_
    rw [nz_1.1]
    refine ia_go 1 rfl ?_
    rw [nI_add, show 1 + (p - 1) + 0 = p by omega]
    exact jd_rv1 rfl rfl rfl trivial ⟨rfl, rfl⟩
  ·
    refine ia_go 4 rfl ?_
    rw [nz_1.2]
    refine ia_go 1 rfl ?_
    rw [nI_add, show 1 + (p - 2) + 1 = p by omega]
    exact jd_rv1 rfl rfl rfl trivial ⟨rfl, rfl⟩
theorem nz_62 {q : Nat} (q1 : 1 ≤ q) (q2 : q ≤ 4) (hq : q ≤ p) (hp : p < 64) : ia_Sx pg G kk_in_numberOfTrailingZeros d 0 0 62 [.int (nI (2 ^ q - 1)), .int (nI (1 + (p - q)))] [] h (fun rv h' => rv = some (.int (nI p)) ∧ h' = h) := by
  have f := nz_2 ⟨q, by omega⟩
  by_cases c : q ≤ 2
  ·
    refine ia_go 3 rfl ?_
    rw [if_pos (by exact (f.2 c))]
    exact nz_74 q1 c hq
  ·
    refine ia_go 3 rfl ?_
    rw [if_neg (by exact (Int32.not_le.mpr (f.1 (show 3 ≤ q by omega)).1))]
    refine ia_go 1 rfl ?_
    dsimp only [ia_s1, ia_s2, ia_cl, ia_D, List.getElem?_cons_zero, List.getElem?_cons_succ, List.set_cons_zero, List.set_cons_succ]
    refine ia_go 3 rfl ?_
    rw [show ((nI (2 ^ q - 1)).toUInt32 >>> ((2 : Int32).toUInt32 &&& Int32.toUInt32 31)).toInt32 = nI (2 ^ (q - 2) - 1) from (f.1 (show 3 ≤ q by omega)).2, show nI (1 + (p - q)) + Int32.ofInt 2 = nI (1 + (p - (q - 2))) by rw [show (Int32.ofInt 2) = nI 2 from rfl, nI_add]; congr 1; omega]
    refine ia_go 1 rfl ?_
    dsimp only [ia_s1, ia_s2, ia_cl, ia_D, List.getElem?_cons_zero, List.getElem?_cons_succ, List.set_cons_zero, List.set_cons_succ]
    exact nz_74 (by omega) (by omega) (by omega)
theorem nz_49 {q : Nat} (q1 : 1 ≤ q) (q2 : q ≤ 8) (hq : q ≤ p) (hp : p < 64) : ia_Sx pg G kk_in_numberOfTrailingZeros d 0 0 49 [.int (nI (2 ^ q - 1)), .int (nI (1 + (p - q)))] [] h (fun rv h' => rv = some (.int (nI p)) ∧ h' = h) := by
  have f := nz_4 ⟨q, by omega⟩
  by_cases c : q ≤ 4
  ·
    refine ia_go 3 rfl ?_
    rw [if_pos (by exact (f.2 c))]
    exact nz_62 q1 c hq hp
  ·
    refine ia_go 3 rfl ?_
    rw [if_neg (by exact (Int32.not_le.mpr (f.1 (show 5 ≤ q by omega)).1))]
    refine ia_go 1 rfl ?_
    dsimp only [ia_s1, ia_s2, ia_cl, ia_D, List.getElem?_cons_zero, List.getElem?_cons_succ, List.set_cons_zero, List.set_cons_succ]
    refine ia_go 3 rfl ?_
    rw [show ((nI (2 ^ q - 1)).toUInt32 >>> ((4 : Int32).toUInt32 &&& Int32.toUInt32 31)).toInt32 = nI (2 ^ (q - 4) - 1) from (f.1 (show 5 ≤ q by omega)).2, show nI (1 + (p - q)) + Int32.ofInt 4 = nI (1 + (p - (q - 4))) by rw [show (Int32.ofInt 4) = nI 4 from rfl, nI_add]; congr 1; omega]
    refine ia_go 1 rfl ?_
    dsimp only [ia_s1, ia_s2, ia_cl, ia_D, List.getElem?_cons_zero, List.getElem?_cons_succ, List.set_cons_zero, List.set_cons_succ]
    exact nz_62 (by omega) (by omega) (by omega) hp
theorem nz_34 {q : Nat} (q1 : 1 ≤ q) (q2 : q ≤ 16) (hq : q ≤ p) (hp : p < 64) : ia_Sx pg G kk_in_numberOfTrailingZeros d 0 0 34 [.int (nI (2 ^ q - 1)), .int (nI (1 + (p - q)))] [] h (fun rv h' => rv = some (.int (nI p)) ∧ h' = h) := by
  have f := nz_8 ⟨q, by omega⟩
  by_cases c : q ≤ 8
  ·
    refine ia_go 3 rfl ?_
    rw [if_pos (by exact (f.2 c))]
    exact nz_49 q1 c hq hp
  ·
    refine ia_go 3 rfl ?_
    rw [if_neg (by exact (Int32.not_le.mpr (f.1 (show 9 ≤ q by omega)).1))]
    refine ia_go 1 rfl ?_
    dsimp only [ia_s1, ia_s2, ia_cl, ia_D, List.getElem?_cons_zero, List.getElem?_cons_succ, List.set_cons_zero, List.set_cons_succ]
    refine ia_go 3 rfl ?_
    rw [show ((nI (2 ^ q - 1)).toUInt32 >>> ((8 : Int32).toUInt32 &&& Int32.toUInt32 31)).toInt32 = nI (2 ^ (q - 8) - 1) from (f.1 (show 9 ≤ q by omega)).2, show nI (1 + (p - q)) + Int32.ofInt 8 = nI (1 + (p - (q - 8))) by rw [show (Int32.ofInt 8) = nI 8 from rfl, nI_add]; congr 1; omega]
    refine ia_go 1 rfl ?_
    dsimp only [ia_s1, ia_s2, ia_cl, ia_D, List.getElem?_cons_zero, List.getElem?_cons_succ, List.set_cons_zero, List.set_cons_succ]
    exact nz_49 (by omega) (by omega) (by omega) hp
theorem nz_i {x : Int32} (hp : p < 32) (h1 : x.toBitVec.getLsbD p = true) (h2 : ∀ j, j < p → x.toBitVec.getLsbD j = false) : ia_Cn pg G kk_in_numberOfTrailingZeros d 0 0 [.int x] h (fun rv h' => rv = some (.int (nI p)) ∧ h' = h) := by
  have e := lb_eq hp h1 h2
  by_cases p0 : p = 0
  · subst p0
    refine jd_met (ls := [.int x, .retAddr 0]) rfl rfl rfl ?_
    refine ia_go 7 rfl ?_
    rw [e]
    refine ia_go 1 rfl ?_
    dsimp only [ia_s1, ia_s2, ia_cl, ia_D, List.getElem?_cons_zero, List.getElem?_cons_succ, List.set_cons_zero, List.set_cons_succ]
    refine ia_go 2 rfl ?_
    rw [if_neg (by exact (by decide))]
    refine ia_go 3 rfl ?_
    exact jd_rv1 rfl rfl rfl trivial ⟨by decide, rfl⟩
  have f := nz_16 ⟨p, hp⟩
  have gt : (0 : Int32) < nI (2 ^ p - 1) := by
    have : ∀ q : Fin 32, 1 ≤ q.val → (0 : Int32) < nI (2 ^ q.val - 1) := by decide +kernel
    exact this ⟨p, hp⟩ (show 1 ≤ p by omega)
  by_cases c : p ≤ 16
  ·
    refine jd_met (ls := [.int x, .retAddr 0]) rfl rfl rfl ?_
    refine ia_go 7 rfl ?_
    rw [e]
    refine ia_go 1 rfl ?_
    dsimp only [ia_s1, ia_s2, ia_cl, ia_D, List.getElem?_cons_zero, List.getElem?_cons_succ, List.set_cons_zero, List.set_cons_succ]
    refine ia_go 2 rfl ?_
    rw [if_pos (by exact gt)]
    refine ia_go 2 rfl ?_
    dsimp only [ia_s1, ia_s2, ia_cl, ia_D, List.getElem?_cons_zero, List.getElem?_cons_succ, List.set_cons_zero, List.set_cons_succ]
    refine ia_go 1 rfl ?_
    refine ia_ldcw rfl ?_
    refine ia_go 1 rfl ?_
    rw [if_pos (by exact (f.2 c))]
    rw [show (1 : Int32) = nI (1 + (p - p)) by rw [Nat.sub_self]; rfl]
    exact nz_34 (by omega) c (Nat.le_refl _) (by omega)
  ·
    refine jd_met (ls := [.int x, .retAddr 0]) rfl rfl rfl ?_
    refine ia_go 7 rfl ?_
    rw [e]
    refine ia_go 1 rfl ?_
    dsimp only [ia_s1, ia_s2, ia_cl, ia_D, List.getElem?_cons_zero, List.getElem?_cons_succ, List.set_cons_zero, List.set_cons_succ]
    refine ia_go 2 rfl ?_
    rw [if_pos (by exact gt)]
    refine ia_go 2 rfl ?_
    dsimp only [ia_s1, ia_s2, ia_cl, ia_D, List.getElem?_cons_zero, List.getElem?_cons_succ, List.set_cons_zero, List.set_cons_succ]
    refine ia_go 1 rfl ?_
    refine ia_ldcw rfl ?_
    refine ia_go 1 rfl ?_
    rw [if_neg (by exact (Int32.not_le.mpr (f.1 (show 17 ≤ p by omega)).1))]
    refine ia_go 1 rfl ?_
    dsimp only [ia_s1, ia_s2, ia_cl, ia_D, List.getElem?_cons_zero, List.getElem?_cons_succ, List.set_cons_zero, List.set_cons_succ]
    refine ia_go 3 rfl ?_
    rw [show ((nI (2 ^ p - 1)).toUInt32 >>> ((16 : Int32).toUInt32 &&& Int32.toUInt32 31)).toInt32 = nI (2 ^ (p - 16) - 1) from (f.1 (show 17 ≤ p by omega)).2, show (1 : Int32) + Int32.ofInt 16 = nI (1 + (p - (p - 16))) by rw [show p - (p - 16) = 16 by omega]; rfl]
    refine ia_go 1 rfl ?_
    dsimp only [ia_s1, ia_s2, ia_cl, ia_D, List.getElem?_cons_zero, List.getElem?_cons_succ, List.set_cons_zero, List.set_cons_succ]
    exact nz_34 (by omega) (by omega) (by omega) (by omega)
theorem nz_lo {w : Int64} (hp : p < 64) (h1 : bz w p = true) (h2 : ∀ j, j < p → bz w j = false) (hd : 1 ≤ d) : ia_Cn pg G kk_lo_numberOfTrailingZeros d 0 0 [.long w] h (fun rv h' => rv = some (.int (nI p)) ∧ h' = h) := by
  have lo : ∀ j, j < 32 → w.toInt32.toBitVec.getLsbD j = bz w j := by
    intro j hj
    rw [Int64.toBitVec_toInt32, BitVec.getLsbD_signExtend, if_pos (by omega)]
    simp [hj, bz]
  have sh : (((32 : Int32).toInt64.toUInt64 &&& Int64.toUInt64 63).toBitVec % 64).toNat = 32 := by decide +kernel
  have hi : ∀ j, j < 32 → (w.toUInt64 >>> ((32 : Int32).toInt64.toUInt64 &&& Int64.toUInt64 63)).toInt64.toInt32.toBitVec.getLsbD j = bz w (32 + j) := by
    intro j hj
    rw [Int64.toBitVec_toInt32, UInt64.toBitVec_toInt64, UInt64.toBitVec_shiftRight, BitVec.getLsbD_signExtend, if_pos (by omega)]
    show (decide (j < 32) && (w.toUInt64.toBitVec >>> (((32 : Int32).toInt64.toUInt64 &&& Int64.toUInt64 63).toBitVec % 64).toNat).getLsbD j) = _
    rw [sh, BitVec.getLsbD_ushiftRight]
    simp [hj]; rfl
  by_cases c : p < 32
  · have nz : ¬ w.toInt32 = 0 := fun z => by
      have := lo p c
      rw [z, h1] at this
      simp at this
    refine jd_met (ls := [.long w, .retAddr 0, .retAddr 0]) rfl rfl rfl ?_
    refine ia_go 3 rfl ?_
    dsimp only [ia_s1, ia_s2, ia_cl, ia_D, List.getElem?_cons_zero, List.getElem?_cons_succ, List.set_cons_zero, List.set_cons_succ]
    refine ia_go 2 rfl ?_
    rw [if_pos (by exact nz)]
    refine ia_go 1 rfl ?_
    refine jd_cS [.int w.toInt32] [] 0 0 (d' := d - 1) rfl rfl rfl rfl rfl (by omega) (by omega) (by omega) (nz_i c ((lo p c).trans h1) (fun j hj => (lo j (by omega)).trans (h2 j hj))) ?_
    rintro rv h' ⟨rfl, hh⟩
    subst hh
    exact jd_rv1 rfl rfl rfl trivial ⟨rfl, rfl⟩
  · have z0 : w.toInt32 = 0 := by
      apply Int32.toBitVec_inj.mp
      apply BitVec.eq_of_getLsbD_eq
      intro i hi
      rw [lo i hi, h2 i (by omega)]
      simp
    refine jd_met (ls := [.long w, .retAddr 0, .retAddr 0]) rfl rfl rfl ?_
    refine ia_go 3 rfl ?_
    dsimp only [ia_s1, ia_s2, ia_cl, ia_D, List.getElem?_cons_zero, List.getElem?_cons_succ, List.set_cons_zero, List.set_cons_succ]
    refine ia_go 2 rfl ?_
    rw [if_neg (by exact (fun z => z z0))]
    refine ia_go 5 rfl ?_
    refine jd_cS [.int (w.toUInt64 >>> ((32 : Int32).toInt64.toUInt64 &&& Int64.toUInt64 63)).toInt64.toInt32] [.int 32] 0 0 (d' := d - 1) rfl rfl rfl rfl rfl (by omega) (by omega) (by omega) (nz_i (p := p - 32) (by omega) ((hi (p - 32) (by omega)).trans (by rw [show 32 + (p - 32) = p by omega]; exact h1)) (fun j hj => (hi j (by omega)).trans (h2 _ (by omega)))) ?_
    rintro rv h' ⟨rfl, hh⟩
    subst hh
    refine ia_go 2 rfl ?_
    rw [show (32 : Int32) + nI (p - 32) = nI p by rw [show (32 : Int32) = nI 32 from rfl, nI_add]; congr 1; omega]
    exact jd_rv1 rfl rfl rfl trivial ⟨rfl, rfl⟩
end NZ
theorem least_of {Q : Nat → Prop} : ∀ n, Q n → ∃ p, p ≤ n ∧ Q p ∧ ∀ j, j < p → ¬ Q j := by
  intro n
  induction n using Nat.strongRecOn with
  | ind n ih =>
    intro h
    by_cases c : ∃ m, m < n ∧ Q m
    · obtain ⟨m, m1, m2⟩ := c
      obtain ⟨p, p1, p2, p3⟩ := ih m m1 m2
      exact ⟨p, by omega, p2, p3⟩
    · exact ⟨n, Nat.le_refl _, h, fun j hj z => c ⟨j, hj, z⟩⟩
theorem bz_low {w : Int64} (h : w ≠ 0) : ∃ p, p < 64 ∧ bz w p = true ∧ ∀ j, j < p → bz w j = false := by
  have ex : ∃ n, n < 64 ∧ bz w n = true := by
    refine Classical.byContradiction fun c => h ?_
    apply Int64.toBitVec_inj.mp
    apply BitVec.eq_of_getLsbD_eq
    intro i hi
    have : ¬ bz w i = true := fun z => c ⟨i, hi, z⟩
    rw [show (0 : Int64).toBitVec.getLsbD i = false by simp]
    exact Bool.eq_false_iff.mpr this
  obtain ⟨n, n1, n2⟩ := ex
  obtain ⟨p, p1, p2, p3⟩ := least_of (Q := fun k => bz w k = true) n n2
  exact ⟨p, by omega, p2, fun j hj => Bool.eq_false_iff.mpr (p3 j hj)⟩
