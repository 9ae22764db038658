/-! THE REFERENCE, 17: what a text is worth. -/
/-- the pile: the first of V is on top -/
def pl (F : Nat → Nat → Int32) : List Int32 → Prop
  | [] => True
  | v :: V => F 15 V.length = v ∧ pl F V
theorem pl.keep {F F' : Nat → Nat → Int32} {V : List Int32} (h : pl F V) (hf : ∀ j, j < V.length → F' 15 j = F 15 j) : pl F' V := by
  induction V with
  | nil => trivial
  | cons v V ih => exact ⟨(hf _ (by simp)).trans h.1, ih h.2 (fun j hj => hf j (by simp; omega))⟩
theorem rm_s_self {S : Nat → Int32} {k : Nat} {x : Int32} (h : S k = x) : rm_s S k x = S := by
  funext q
  unfold rm_s
  split
  next e => rw [e, h]
  next => rfl
def gst (F : Nat → Nat → Int32) : Int32 → Int32 := tx_g (F 16 0) (F 16 1) (F 16 2) (F 16 3) (F 16 4)
theorem rm_valueOf {G : ia_G} {h0 : ia_H} {d : Nat} {c : Int32} {F : Nat → Nat → Int32} {S : Nat → Int32} (hm : rm h0 F S) (hc : tx_z c = true) : ia_Cn pg G kk_M_valueOf d 0 0 [.ref 117, .int c] h0 (fun rv h' => rv = some (.int (gst F c)) ∧ h' = h0) := by
  have hX := hm.X
  by_cases h1 : 97 ≤ c ∧ c ≤ 99
  · have hcc := tx_abc h1.1 h1.2
    rcases hcc with rfl | rfl | rfl
    ·
      refine jd_met (ls := [.ref 117, .int 97]) rfl rfl rfl ?_
      refine ia_go 3 rfl ?_
      rw [if_neg (by decide)]
      refine ia_go 3 rfl ?_
      rw [if_neg (by decide)]
      refine ia_go 1 rfl ?_
      refine ia_getf rfl hm.1 rfl ?_
      refine ia_go 3 rfl ?_
      refine rm_ld (K := 16) (i := 0) rfl hX (by decide) rfl (by decide) (by decide) ?_
      refine ia_go 1 rfl ?_
      exact jd_rv1 rfl rfl rfl trivial ⟨rfl, rfl⟩
    ·
      refine jd_met (ls := [.ref 117, .int 98]) rfl rfl rfl ?_
      refine ia_go 3 rfl ?_
      rw [if_neg (by decide)]
      refine ia_go 3 rfl ?_
      rw [if_neg (by decide)]
      refine ia_go 1 rfl ?_
      refine ia_getf rfl hm.1 rfl ?_
      refine ia_go 3 rfl ?_
      refine rm_ld (K := 16) (i := 1) rfl hX (by decide) rfl (by decide) (by decide) ?_
      refine ia_go 1 rfl ?_
      exact jd_rv1 rfl rfl rfl trivial ⟨rfl, rfl⟩
    ·
      refine jd_met (ls := [.ref 117, .int 99]) rfl rfl rfl ?_
      refine ia_go 3 rfl ?_
      rw [if_neg (by decide)]
      refine ia_go 3 rfl ?_
      rw [if_neg (by decide)]
      refine ia_go 1 rfl ?_
      refine ia_getf rfl hm.1 rfl ?_
      refine ia_go 3 rfl ?_
      refine rm_ld (K := 16) (i := 2) rfl hX (by decide) rfl (by decide) (by decide) ?_
      refine ia_go 1 rfl ?_
      exact jd_rv1 rfl rfl rfl trivial ⟨rfl, rfl⟩
  have hc2 : (48 ≤ c ∧ c ≤ 55) ∨ c = 120 ∨ c = 122 := by
    unfold tx_z tx_n at hc
    simp only [Bool.or_eq_true, Bool.and_eq_true, decide_eq_true_eq, beq_iff_eq] at hc
    rcases hc with (h | h | h) | h
    · exact Or.inl h
    · exact absurd h h1
    · exact Or.inr (Or.inl h)
    · exact Or.inr (Or.inr h)
  rcases hc2 with ⟨h2, h3⟩ | rfl | rfl
  · have lt : c < 97 := Int32.lt_of_le_of_lt h3 (by decide)
    have ne : ∀ k : Int32, 55 < k → ¬ c = k := fun k hk e => absurd (Int32.lt_of_le_of_lt (e ▸ h3) hk) Int32.lt_irrefl
    have hg : gst F c = c - 48 := by
      unfold gst tx_g
      rw [if_neg (by simpa using ne 97 (by decide)), if_neg (by simpa using ne 98 (by decide)), if_neg (by simpa using ne 99 (by decide)), if_neg (by simpa using ne 120 (by decide)), if_neg (by simpa using ne 122 (by decide))]
    rw [hg]
    refine jd_met (ls := [.ref 117, .int c]) rfl rfl rfl ?_
    refine ia_go 3 rfl ?_
    rw [if_pos lt]
    refine ia_go 3 rfl ?_
    rw [if_pos (ne 120 (by decide))]
    refine ia_go 3 rfl ?_
    rw [if_pos (ne 122 (by decide))]
    refine ia_go 3 rfl ?_
    exact jd_rv1 rfl rfl rfl trivial ⟨rfl, rfl⟩
  ·
    refine jd_met (ls := [.ref 117, .int 120]) rfl rfl rfl ?_
    refine ia_go 3 rfl ?_
    rw [if_neg (by decide)]
    refine ia_go 3 rfl ?_
    rw [if_pos (by decide)]
    refine ia_go 3 rfl ?_
    rw [if_neg (by decide)]
    refine ia_go 1 rfl ?_
    refine ia_getf rfl hm.1 rfl ?_
    refine ia_go 1 rfl ?_
    refine rm_ld (K := 16) (i := 3) rfl hX (by decide) rfl (by decide) (by decide) ?_
    refine ia_go 1 rfl ?_
    exact jd_rv1 rfl rfl rfl trivial ⟨rfl, rfl⟩
  ·
    refine jd_met (ls := [.ref 117, .int 122]) rfl rfl rfl ?_
    refine ia_go 3 rfl ?_
    rw [if_neg (by decide)]
    refine ia_go 3 rfl ?_
    rw [if_pos (by decide)]
    refine ia_go 3 rfl ?_
    rw [if_pos (by decide)]
    refine ia_go 3 rfl ?_
    rw [if_neg (by decide)]
    refine ia_go 1 rfl ?_
    refine ia_getf rfl hm.1 rfl ?_
    refine ia_go 1 rfl ?_
    refine rm_ld (K := 16) (i := 4) rfl hX (by decide) rfl (by decide) (by decide) ?_
    refine ia_go 1 rfl ?_
    exact jd_rv1 rfl rfl rfl trivial ⟨rfl, rfl⟩
theorem rm_join {G : ia_G} {h0 : ia_H} {d : Nat} {c a b : Int32} (hc : tx_o c = true ∨ tx_q c = true ∨ tx_b c = true) : ia_Cn pg G kk_M_join d 0 0 [.int c, .int a, .int b] h0 (fun rv h' => rv = some (.int (tx_j c a b)) ∧ h' = h0) := by
  have hcs : c = 43 ∨ c = 45 ∨ c = 42 ∨ c = 61 ∨ c = 60 ∨ c = 38 ∨ c = 124 ∨ c = 62 := by
    unfold tx_o tx_q tx_b at hc
    simp only [Bool.or_eq_true, beq_iff_eq] at hc
    rcases hc with (h | h | h) | (h | h) | (h | h | h) <;> simp [h]
  rcases hcs with rfl | rfl | rfl | rfl | rfl | rfl | rfl | rfl
  ·
    refine jd_met (ls := [.int 43, .int a, .int b]) rfl rfl rfl ?_
    refine ia_go 2 rfl ?_
    skip
    refine ia_go 5 rfl ?_
    exact jd_rv1 rfl rfl rfl trivial ⟨rfl, rfl⟩
  ·
    refine jd_met (ls := [.int 45, .int a, .int b]) rfl rfl rfl ?_
    refine ia_go 2 rfl ?_
    skip
    refine ia_go 5 rfl ?_
    exact jd_rv1 rfl rfl rfl trivial ⟨rfl, rfl⟩
  ·
    refine jd_met (ls := [.int 42, .int a, .int b]) rfl rfl rfl ?_
    refine ia_go 2 rfl ?_
    skip
    refine ia_go 5 rfl ?_
    exact jd_rv1 rfl rfl rfl trivial ⟨rfl, rfl⟩
  · by_cases hab : a = b
    ·
      refine jd_met (ls := [.int 61, .int a, .int b]) rfl rfl rfl ?_
      refine ia_go 2 rfl ?_
      skip
      refine ia_go 3 rfl ?_
      rw [if_neg (fun z => z hab)]
      refine ia_go 2 rfl ?_
      exact jd_rv1 rfl rfl rfl trivial ⟨by show _ = some (Value.int (if a = b then 1 else 0)); rw [if_pos hab], rfl⟩
    ·
      refine jd_met (ls := [.int 61, .int a, .int b]) rfl rfl rfl ?_
      refine ia_go 2 rfl ?_
      skip
      refine ia_go 3 rfl ?_
      rw [if_pos hab]
      refine ia_go 1 rfl ?_
      exact jd_rv1 rfl rfl rfl trivial ⟨by show _ = some (Value.int (if a = b then 1 else 0)); rw [if_neg hab], rfl⟩
  · by_cases hab : a < b
    ·
      refine jd_met (ls := [.int 60, .int a, .int b]) rfl rfl rfl ?_
      refine ia_go 2 rfl ?_
      skip
      refine ia_go 3 rfl ?_
      rw [if_neg (Int32.not_le.mpr hab)]
      refine ia_go 2 rfl ?_
      exact jd_rv1 rfl rfl rfl trivial ⟨by show _ = some (Value.int (if a < b then 1 else 0)); rw [if_pos hab], rfl⟩
    ·
      refine jd_met (ls := [.int 60, .int a, .int b]) rfl rfl rfl ?_
      refine ia_go 2 rfl ?_
      skip
      refine ia_go 3 rfl ?_
      rw [if_pos (Int32.not_lt.mp hab)]
      refine ia_go 1 rfl ?_
      exact jd_rv1 rfl rfl rfl trivial ⟨by show _ = some (Value.int (if a < b then 1 else 0)); rw [if_neg hab], rfl⟩
  ·
    refine jd_met (ls := [.int 38, .int a, .int b]) rfl rfl rfl ?_
    refine ia_go 2 rfl ?_
    skip
    refine ia_go 3 rfl ?_
    exact jd_rv1 rfl rfl rfl trivial ⟨rfl, rfl⟩
  ·
    refine jd_met (ls := [.int 124, .int a, .int b]) rfl rfl rfl ?_
    refine ia_go 2 rfl ?_
    skip
    refine ia_go 3 rfl ?_
    exact jd_rv1 rfl rfl rfl trivial ⟨rfl, rfl⟩
  ·
    refine jd_met (ls := [.int 62, .int a, .int b]) rfl rfl rfl ?_
    refine ia_go 2 rfl ?_
    skip
    refine ia_go 5 rfl ?_
    exact jd_rv1 rfl rfl rfl trivial ⟨rfl, rfl⟩
/-- what one character does to the pile -/
def st_Q (h0 : ia_H) (F : Nat → Nat → Int32) (S : Nat → Int32) (V : List Int32) (rv : Option Value) (h' : ia_H) : Prop := rv = none ∧ ∃ F', rm_X h0 h' F' (rm_s S 7 (nI V.length)) ∧ pl F' V ∧ ∀ k j, k ≠ 15 → F' k j = F k j
theorem rm_step {G : ia_G} {h0 : ia_H} {d : Nat} {c : Int32} {ty ty' : List Bool} {V : List Int32} {F : Nat → Nat → Int32} {S : Nat → Int32} (hd : 1 ≤ d) (hm : rm h0 F S) (hS : S 7 = nI V.length) (hV : pl F V) (hl : V.length = ty.length) (hb : V.length < 130) (hc : tx_s c ty = some ty') : ia_Cn pg G kk_M_step d 0 0 [.ref 117, .int c] h0 (st_Q h0 F S (tx_v (gst F) c V)) := by
  have hX := hm.X
  by_cases hz : tx_z c = true
  · have hv : tx_v (gst F) c V = gst F c :: V := by
      unfold tx_v
      rw [if_neg (by intro z; rw [eq_of_beq z] at hz; exact absurd hz (by decide)), if_neg (by intro z; rw [eq_of_beq z] at hz; exact absurd hz (by decide)), if_pos hz]
    have n84 : ¬ c = 84 := by intro z; rw [z] at hz; exact absurd hz (by decide)
    have n33 : ¬ c = 33 := by intro z; rw [z] at hz; exact absurd hz (by decide)
    rw [hv]
    have rest : ia_Sx pg G kk_M_step d 0 0 86 [.ref 117, .int c] [] h0 (st_Q h0 F S (gst F c :: V)) := by
      refine ia_go 1 rfl ?_
      refine ia_getf rfl hX.1.1 rfl ?_
      refine ia_go 1 rfl ?_
      refine ia_getf rfl hX.1.1 rfl ?_
      refine ia_go 2 rfl ?_
      rw [hS]
      refine jd_cV 117 [.int c] [.int (nI V.length), .ref 133] 0 0 (d' := d - 1) rfl rfl rfl hm.1 rfl rfl (by omega) (by omega) (by omega) (rm_valueOf hm hz) ?_
      rintro rv h' ⟨rfl, rfl⟩
      refine rm_st (K := 15) rfl hX (by decide) rfl (show V.length < 130 from hb) (by decide) (fun h1 hX => ?_)
      refine ia_go 2 rfl ?_
      refine ia_getf rfl hX.1.1 rfl ?_
      refine ia_go 2 rfl ?_
      rw [hS, nI_1]
      refine rm_put (sk := 7) rfl hX rfl rfl (fun h1 hX => ?_)
      refine ia_go 1 rfl ?_
      exact jd_rv0 rfl rfl rfl ⟨rfl, _, hX, ⟨rm_uu, hV.keep (fun j hj => rm_un (by omega))⟩, fun k j hk => rm_uk hk⟩
    have hc2 : (48 ≤ c ∧ c ≤ 57) ∨ (97 ≤ c ∧ c ≤ 122) := by
      unfold tx_z tx_n at hz
      simp only [Bool.or_eq_true, Bool.and_eq_true, decide_eq_true_eq, beq_iff_eq] at hz
      rcases hz with (⟨h1, h2⟩ | ⟨h1, h2⟩ | h) | h
      · exact Or.inl ⟨h1, Int32.le_trans h2 (by decide)⟩
      · exact Or.inr ⟨h1, Int32.le_trans h2 (by decide)⟩
      · rw [h]; exact Or.inr (by decide)
      · rw [h]; exact Or.inr (by decide)
    rcases hc2 with ⟨a1, a2⟩ | ⟨a1, a2⟩
    ·
      refine jd_met (ls := [.ref 117, .int c]) rfl rfl rfl ?_
      refine ia_go 3 rfl ?_
      rw [if_pos n84]
      refine ia_go 3 rfl ?_
      rw [if_pos n33]
      refine ia_go 3 rfl ?_
      rw [if_neg (Int32.not_lt.mpr a1)]
      refine ia_go 3 rfl ?_
      rw [if_pos a2]
      exact rest
    ·
      refine jd_met (ls := [.ref 117, .int c]) rfl rfl rfl ?_
      refine ia_go 3 rfl ?_
      rw [if_pos n84]
      refine ia_go 3 rfl ?_
      rw [if_pos n33]
      refine ia_go 3 rfl ?_
      rw [if_neg (show ¬ c < 48 from Int32.not_lt.mpr (Int32.le_trans (by decide) a1))]
      refine ia_go 3 rfl ?_
      rw [if_neg (show ¬ c ≤ 57 from fun z => absurd (Int32.le_trans a1 z) (by decide))]
      refine ia_go 3 rfl ?_
      rw [if_neg (show ¬ c < 97 from Int32.not_lt.mpr a1)]
      refine ia_go 3 rfl ?_
      rw [if_neg (show ¬ 122 < c from Int32.not_lt.mpr a2)]
      exact rest
  by_cases h84 : c = 84
  · subst h84
    refine jd_met (ls := [.ref 117, .int 84]) rfl rfl rfl ?_
    refine ia_go 3 rfl ?_
    rw [if_neg (by decide)]
    refine ia_go 1 rfl ?_
    refine ia_getf rfl hX.1.1 rfl ?_
    refine ia_go 1 rfl ?_
    refine ia_getf rfl hX.1.1 rfl ?_
    refine ia_go 1 rfl ?_
    rw [hS]
    refine rm_st (K := 15) rfl hX (by decide) rfl (show V.length < 130 from hb) (by decide) (fun h1 hX => ?_)
    refine ia_go 2 rfl ?_
    refine ia_getf rfl hX.1.1 rfl ?_
    refine ia_go 2 rfl ?_
    rw [hS, nI_1]
    refine rm_put (sk := 7) rfl hX rfl rfl (fun h1 hX => ?_)
    refine ia_go 1 rfl ?_
    exact jd_rv0 rfl rfl rfl ⟨rfl, _, hX, ⟨rm_uu, hV.keep (fun j hj => rm_un (by omega))⟩, fun k j hk => rm_uk hk⟩
  by_cases h33 : c = 33
  · subst h33
    obtain ⟨v, W, rfl⟩ : ∃ v W, V = v :: W := by
      cases V with
      | nil =>
        cases ty with
        | nil => cases hc
        | cons _ _ => simp at hl
      | cons v W => exact ⟨v, W, rfl⟩
    have hsub : nI (W.length + 1) - 1 = nI W.length := jd_sub (b := 1) (by omega)
    refine jd_met (ls := [.ref 117, .int 33]) rfl rfl rfl ?_
    refine ia_go 3 rfl ?_
    rw [if_pos (by decide)]
    refine ia_go 3 rfl ?_
    rw [if_neg (by decide)]
    refine ia_go 1 rfl ?_
    refine ia_getf rfl hX.1.1 rfl ?_
    refine ia_go 1 rfl ?_
    refine ia_getf rfl hX.1.1 rfl ?_
    refine ia_go 4 rfl ?_
    refine ia_getf rfl hX.1.1 rfl ?_
    refine ia_go 1 rfl ?_
    refine ia_getf rfl hX.1.1 rfl ?_
    refine ia_go 2 rfl ?_
    rw [hS, show (v :: W).length = W.length + 1 from rfl, hsub]
    refine rm_ld (K := 15) rfl hX (by decide) rfl (show W.length < 130 by simp at hb; omega) (by decide) ?_
    rw [hV.1]
    refine ia_go 1 rfl ?_
    refine rm_st (K := 15) rfl hX (by decide) rfl (show W.length < 130 by simp at hb; omega) (by decide) (fun h1 hX => ?_)
    refine ia_go 1 rfl ?_
    refine jd_rv0 rfl rfl rfl ⟨rfl, _, ?_, ⟨rm_uu, hV.2.keep (fun j hj => rm_un (by omega))⟩, fun k j hk => rm_uk hk⟩
    show rm_X _ _ _ (rm_s S 7 (nI (W.length + 1)))
    rw [rm_s_self (S := S) (k := 7) (x := nI (W.length + 1)) hS]
    exact hX
  -- two are joined
  have hcj : (tx_o c = true ∨ tx_q c = true ∨ tx_b c = true) ∧ ∃ v w W, V = v :: w :: W := by
    have two : ∀ {x y : Bool} {tt : List Bool}, ty = x :: y :: tt → ∃ v w W, V = v :: w :: W := by
      intro x y tt e
      rw [e] at hl
      match V, hl with
      | v :: w :: W, _ => exact ⟨v, w, W, rfl⟩
    unfold tx_s at hc
    rw [if_neg hz, if_neg (by simpa using h84)] at hc
    split at hc
    next h =>
      split at hc
      next => exact ⟨Or.inl h, two rfl⟩
      next => cases hc
    next =>
      split at hc
      next h =>
        split at hc
        next => exact ⟨Or.inr (Or.inl h), two rfl⟩
        next => cases hc
      next =>
        rw [if_neg (by simpa using h33)] at hc
        split at hc
        next h =>
          split at hc
          next => exact ⟨Or.inr (Or.inr h), two rfl⟩
          next => cases hc
        next => cases hc
  obtain ⟨hj, v, w, W, rfl⟩ := hcj
  have hcs : (c < 48 ∨ 57 < c) ∧ (c < 97 ∨ 122 < c) := by
    unfold tx_o tx_q tx_b at hj
    simp only [Bool.or_eq_true, beq_iff_eq] at hj
    rcases hj with (h | h | h) | (h | h) | (h | h | h) <;> (rw [h]; decide)
  have hv : tx_v (gst F) c (v :: w :: W) = tx_j c v w :: W := by
    unfold tx_v
    rw [if_neg (by simpa using h84), if_neg (by simpa using h33), if_neg hz]
  rw [hv]
  have hs1 : nI (W.length + 2) - 1 = nI (W.length + 1) := jd_sub (b := 1) (by omega)
  have hs2 : nI (W.length + 2) - 2 = nI W.length := jd_sub (b := 2) (by omega)
  have rest : ia_Sx pg G kk_M_step d 0 0 113 [.ref 117, .int c] [] h0 (st_Q h0 F S (tx_j c v w :: W)) := by
    refine ia_go 1 rfl ?_
    refine ia_getf rfl hX.1.1 rfl ?_
    refine ia_go 1 rfl ?_
    refine ia_getf rfl hX.1.1 rfl ?_
    refine ia_go 4 rfl ?_
    refine ia_getf rfl hX.1.1 rfl ?_
    refine ia_go 1 rfl ?_
    refine ia_getf rfl hX.1.1 rfl ?_
    refine ia_go 2 rfl ?_
    rw [hS, show (v :: w :: W).length = W.length + 2 from rfl, hs1, hs2]
    refine rm_ld (K := 15) rfl hX (by decide) rfl (show W.length + 1 < 130 by simp at hb; omega) (by decide) ?_
    rw [show F 15 (W.length + 1) = v from hV.1]
    refine ia_go 1 rfl ?_
    refine ia_getf rfl hX.1.1 rfl ?_
    refine ia_go 1 rfl ?_
    refine ia_getf rfl hX.1.1 rfl ?_
    refine ia_go 2 rfl ?_
    rw [hS, show (v :: w :: W).length = W.length + 2 from rfl, hs2]
    refine rm_ld (K := 15) rfl hX (by decide) rfl (show W.length < 130 by simp at hb; omega) (by decide) ?_
    rw [show F 15 W.length = w from hV.2.1]
    refine jd_cS [.int c, .int v, .int w] [.int (nI W.length), .ref 133] 0 0 (d' := d - 1) rfl rfl rfl rfl rfl (by omega) (by omega) (by omega) (rm_join hj) ?_
    rintro rv h' ⟨rfl, rfl⟩
    refine rm_st (K := 15) rfl hX (by decide) rfl (show W.length < 130 by simp at hb; omega) (by decide) (fun h1 hX => ?_)
    refine ia_go 2 rfl ?_
    refine ia_getf rfl hX.1.1 rfl ?_
    refine ia_go 2 rfl ?_
    rw [hS, show (v :: w :: W).length = W.length + 2 from rfl, hs1]
    refine rm_put (sk := 7) rfl hX rfl rfl (fun h1 hX => ?_)
    exact jd_rv0 rfl rfl rfl ⟨rfl, _, hX, ⟨rm_uu, hV.2.2.keep (fun j hj => rm_un (by omega))⟩, fun k j hk => rm_uk hk⟩
  rcases hcs with ⟨a1 | a1, a2⟩
  ·
    refine jd_met (ls := [.ref 117, .int c]) rfl rfl rfl ?_
    refine ia_go 3 rfl ?_
    rw [if_pos h84]
    refine ia_go 3 rfl ?_
    rw [if_pos h33]
    refine ia_go 3 rfl ?_
    rw [if_pos a1]
    refine ia_go 3 rfl ?_
    rw [if_pos (show c < 97 from Int32.lt_of_lt_of_le a1 (by decide))]
    exact rest
  rcases a2 with a2 | a2
  ·
    refine jd_met (ls := [.ref 117, .int c]) rfl rfl rfl ?_
    refine ia_go 3 rfl ?_
    rw [if_pos h84]
    refine ia_go 3 rfl ?_
    rw [if_pos h33]
    refine ia_go 3 rfl ?_
    rw [if_neg (show ¬ c < 48 from fun z => absurd (Int32.lt_trans a1 z) (by decide))]
    refine ia_go 3 rfl ?_
    rw [if_neg (show ¬ c ≤ 57 from Int32.not_le.mpr a1)]
    refine ia_go 3 rfl ?_
    rw [if_pos a2]
    exact rest
  ·
    refine jd_met (ls := [.ref 117, .int c]) rfl rfl rfl ?_
    refine ia_go 3 rfl ?_
    rw [if_pos h84]
    refine ia_go 3 rfl ?_
    rw [if_pos h33]
    refine ia_go 3 rfl ?_
    rw [if_neg (show ¬ c < 48 from fun z => absurd (Int32.lt_trans a1 z) (by decide))]
    refine ia_go 3 rfl ?_
    rw [if_neg (show ¬ c ≤ 57 from Int32.not_le.mpr a1)]
    refine ia_go 3 rfl ?_
    rw [if_neg (show ¬ c < 97 from fun z => absurd (Int32.lt_trans a2 z) (by decide))]
    refine ia_go 3 rfl ?_
    rw [if_pos a2]
    exact rest
