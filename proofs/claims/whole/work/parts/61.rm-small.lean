/-! THE REFERENCE, 2: what a character wants; small ones. -/
def rm_le (c : Int32) : Int32 := if c = 97 ∨ c = 98 ∨ c = 99 ∨ c = 120 then 1 else 0
theorem rm_isLetter {G : ia_G} {h : ia_H} {d : Nat} {c : Int32} : ia_Cn pg G kk_M_isLetter d 0 0 [.int c] h (fun rv h' => rv = some (.int (rm_le c)) ∧ h' = h) := by
  refine jd_met (ls := [.int c]) rfl rfl rfl ?_
  refine ia_go 3 rfl ?_
  split
  · refine ia_go 2 rfl ?_
    exact jd_rv1 rfl rfl rfl rfl ⟨by unfold rm_le; simp_all, rfl⟩
  · refine ia_go 3 rfl ?_
    split
    · refine ia_go 2 rfl ?_
      exact jd_rv1 rfl rfl rfl rfl ⟨by unfold rm_le; simp_all, rfl⟩
    · refine ia_go 3 rfl ?_
      split
      · refine ia_go 2 rfl ?_
        exact jd_rv1 rfl rfl rfl rfl ⟨by unfold rm_le; simp_all, rfl⟩
      · refine ia_go 3 rfl ?_
        split
        · refine ia_go 1 rfl ?_
          exact jd_rv1 rfl rfl rfl rfl ⟨by unfold rm_le; simp_all, rfl⟩
        · refine ia_go 2 rfl ?_
          exact jd_rv1 rfl rfl rfl rfl ⟨by unfold rm_le; simp_all, rfl⟩
/-- 21: two terms, 22: two formulas, 12: a formula, 0: nothing more, -1: it is wrong -/
def rm_w1 (c : Int32) : Int32 := if tx_o c then 21 else if tx_n c then 0 else -1
def rm_w2 (c : Int32) : Int32 := if c == 84 then 0 else if tx_q c then 21 else if c == 33 then 12 else if tx_b c then 22 else -1
theorem rm_n_le {c : Int32} : tx_n c = true ↔ (48 ≤ c ∧ c ≤ 55) ∨ rm_le c = 1 := by
  unfold tx_n rm_le
  simp only [Bool.or_eq_true, Bool.and_eq_true, decide_eq_true_eq, beq_iff_eq]
  constructor
  · rintro (h | ⟨h1, h2⟩ | h)
    · exact Or.inl h
    · right
      rw [if_pos]
      rcases tx_abc h1 h2 with h | h | h <;> simp [h]
    · right; rw [if_pos]; simp [h]
  · rintro (h | h)
    · exact Or.inl h
    · split at h
      next h9 =>
        rcases h9 with rfl | rfl | rfl | rfl
        · exact Or.inr (Or.inl (by decide))
        · exact Or.inr (Or.inl (by decide))
        · exact Or.inr (Or.inl (by decide))
        · exact Or.inr (Or.inr rfl)
      next => cases h
theorem rm_le01 (c : Int32) : rm_le c = 0 ∨ rm_le c = 1 := by
  unfold rm_le; split
  · exact Or.inr rfl
  · exact Or.inl rfl
theorem rm_w1_eq (c : Int32) : rm_w1 c = if c = 43 ∨ c = 45 ∨ c = 42 then 21 else if (48 ≤ c ∧ c ≤ 55) ∨ rm_le c = 1 then 0 else -1 := by
  unfold rm_w1 tx_o
  simp only [Bool.or_eq_true, beq_iff_eq, rm_n_le]
theorem rm_w2_eq (c : Int32) : rm_w2 c = if c = 84 then 0 else if c = 61 ∨ c = 60 then 21 else if c = 33 then 12 else if c = 38 ∨ c = 124 ∨ c = 62 then 22 else -1 := by
  unfold rm_w2 tx_q tx_b
  simp only [Bool.or_eq_true, beq_iff_eq]
theorem rm_wants1 {G : ia_G} {h : ia_H} {d : Nat} {c : Int32} (hd : 1 ≤ d) : ia_Cn pg G kk_M_wants d 0 0 [.int 1, .int c] h (fun rv h' => rv = some (.int (rm_w1 c)) ∧ h' = h) := by
  have h01 := rm_le01 c
  have hx : c < 48 → ¬ (48 : Int32) ≤ c := fun a b => absurd a (Int32.not_lt.mpr b)
  rw [rm_w1_eq]
  refine jd_met (ls := [.int 1, .int c]) rfl rfl rfl ?_
  refine ia_go 3 rfl ?_
  rw [if_neg (fun z => z rfl)]
  refine ia_go 3 rfl ?_
  split
  · refine ia_go 2 rfl ?_
    exact jd_rv1 rfl rfl rfl trivial ⟨by first | (simp_all [Int32.not_lt, Int32.not_le]; done) | (rw [if_neg (by simp_all), if_neg (by rintro (⟨z, -⟩ | z); exact hx (by assumption) z; simp_all)]), rfl⟩
  · refine ia_go 3 rfl ?_
    split
    · refine ia_go 2 rfl ?_
      exact jd_rv1 rfl rfl rfl trivial ⟨by first | (simp_all [Int32.not_lt, Int32.not_le]; done) | (rw [if_neg (by simp_all), if_neg (by rintro (⟨z, -⟩ | z); exact hx (by assumption) z; simp_all)]), rfl⟩
    · refine ia_go 3 rfl ?_
      split
      · refine ia_go 3 rfl ?_
        split
        · refine ia_go 1 rfl ?_
          refine jd_cS [.int c] [] 0 0 (d' := d - 1) rfl rfl rfl rfl rfl (by omega) (by omega) (by omega) rm_isLetter ?_
          rintro rv h' ⟨rfl, rfl⟩
          refine ia_go 1 rfl ?_
          split
          · refine ia_go 1 rfl ?_
            exact jd_rv1 rfl rfl rfl trivial ⟨by first | (simp_all [Int32.not_lt, Int32.not_le]; done) | (rw [if_neg (by simp_all), if_neg (by rintro (⟨z, -⟩ | z); exact hx (by assumption) z; simp_all)]), rfl⟩
          · refine ia_go 2 rfl ?_
            exact jd_rv1 rfl rfl rfl trivial ⟨by first | (simp_all [Int32.not_lt, Int32.not_le]; done) | (rw [if_neg (by simp_all), if_neg (by rintro (⟨z, -⟩ | z); exact hx (by assumption) z; simp_all)]), rfl⟩
        · refine ia_go 3 rfl ?_
          split
          · refine ia_go 2 rfl ?_
            exact jd_rv1 rfl rfl rfl trivial ⟨by first | (simp_all [Int32.not_lt, Int32.not_le]; done) | (rw [if_neg (by simp_all), if_neg (by rintro (⟨z, -⟩ | z); exact hx (by assumption) z; simp_all)]), rfl⟩
          · refine ia_go 1 rfl ?_
            refine jd_cS [.int c] [] 0 0 (d' := d - 1) rfl rfl rfl rfl rfl (by omega) (by omega) (by omega) rm_isLetter ?_
            rintro rv h' ⟨rfl, rfl⟩
            refine ia_go 1 rfl ?_
            split
            · refine ia_go 1 rfl ?_
              exact jd_rv1 rfl rfl rfl trivial ⟨by first | (simp_all [Int32.not_lt, Int32.not_le]; done) | (rw [if_neg (by simp_all), if_neg (by rintro (⟨z, -⟩ | z); exact hx (by assumption) z; simp_all)]), rfl⟩
            · refine ia_go 2 rfl ?_
              exact jd_rv1 rfl rfl rfl trivial ⟨by first | (simp_all [Int32.not_lt, Int32.not_le]; done) | (rw [if_neg (by simp_all), if_neg (by rintro (⟨z, -⟩ | z); exact hx (by assumption) z; simp_all)]), rfl⟩
      · refine ia_go 2 rfl ?_
        exact jd_rv1 rfl rfl rfl trivial ⟨by first | (simp_all [Int32.not_lt, Int32.not_le]; done) | (rw [if_neg (by simp_all), if_neg (by rintro (⟨z, -⟩ | z); exact hx (by assumption) z; simp_all)]), rfl⟩
theorem rm_wants2 {G : ia_G} {h : ia_H} {d : Nat} {c : Int32} : ia_Cn pg G kk_M_wants d 0 0 [.int 2, .int c] h (fun rv h' => rv = some (.int (rm_w2 c)) ∧ h' = h) := by
  rw [rm_w2_eq]
  refine jd_met (ls := [.int 2, .int c]) rfl rfl rfl ?_
  refine ia_go 3 rfl ?_
  rw [if_pos (by decide)]
  refine ia_go 3 rfl ?_
  split
  · refine ia_go 3 rfl ?_
    split
    · refine ia_go 2 rfl ?_
      exact jd_rv1 rfl rfl rfl trivial ⟨by simp_all, rfl⟩
    · refine ia_go 3 rfl ?_
      split
      · refine ia_go 3 rfl ?_
        split
        · refine ia_go 3 rfl ?_
          split
          · refine ia_go 2 rfl ?_
            exact jd_rv1 rfl rfl rfl trivial ⟨by simp_all, rfl⟩
          · refine ia_go 3 rfl ?_
            split
            · refine ia_go 2 rfl ?_
              exact jd_rv1 rfl rfl rfl trivial ⟨by simp_all, rfl⟩
            · refine ia_go 3 rfl ?_
              split
              · refine ia_go 1 rfl ?_
                exact jd_rv1 rfl rfl rfl trivial ⟨by simp_all, rfl⟩
              · refine ia_go 2 rfl ?_
                exact jd_rv1 rfl rfl rfl trivial ⟨by simp_all, rfl⟩
        · refine ia_go 2 rfl ?_
          exact jd_rv1 rfl rfl rfl trivial ⟨by simp_all, rfl⟩
      · refine ia_go 2 rfl ?_
        exact jd_rv1 rfl rfl rfl trivial ⟨by simp_all, rfl⟩
  · refine ia_go 2 rfl ?_
    exact jd_rv1 rfl rfl rfl trivial ⟨by simp_all, rfl⟩
