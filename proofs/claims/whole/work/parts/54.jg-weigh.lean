/-! THE JUDGE, 5: weigh, one character. -/
theorem sx_t.keep {h h' : ia_H} {a : Nat} {t : List Int32} {S : Nat → Prop} (hT : sx_t h a t) (hf : sx_fr h h' S) (hS : ∀ q, S q → (∀ r, h.1 q ≠ some (.inr (10, r))) ∧ ∀ n f, h.1 q ≠ some (.inl (.byte, n, f))) : sx_t h' a t := by
  obtain ⟨w, r, f, ha, hw, hfj, hch, hul, p1, p2⟩ := hT
  exact ⟨w, r, f, (hf.2 a p1 (fun z => (hS a z).1 _ ha)).trans ha, (hf.2 w p2 (fun z => (hS w z).2 _ _ hw)).trans hw, hfj, hch, hul, Nat.lt_of_lt_of_le p1 hf.1, Nat.lt_of_lt_of_le p2 hf.1⟩
theorem jg_off {h : ia_H} {F1 F2 F3 : Nat → Int64} {n : Nat} (hj : jg h F1 F2 F3 n) : ∀ q, jg_S q → (∀ r, h.1 q ≠ some (.inr (10, r))) ∧ ∀ n f, h.1 q ≠ some (.inl (.byte, n, f)) := by
  intro q hq
  obtain ⟨h1, h2, h3, h4, -⟩ := hj
  have hq1 : 72 ≤ q := hq.1
  have hq2 : q ≤ 75 := hq.2
  rcases (by omega : q = 72 ∨ q = 73 ∨ q = 74 ∨ q = 75) with rfl | rfl | rfl | rfl
  · rw [h1]; exact ⟨(fun r z => by cases z), (fun n f z => by cases z)⟩
  · rw [h2]; exact ⟨(fun r z => by cases z), (fun n f z => by cases z)⟩
  · rw [h3]; exact ⟨(fun r z => by cases z), (fun n f z => by cases z)⟩
  · rw [h4]; exact ⟨(fun r z => by cases z), (fun n f z => by cases z)⟩
theorem tx_dig {c : Int32} (h1 : 48 ≤ c) (h2 : c ≤ 55) : c = 48 ∨ c = 49 ∨ c = 50 ∨ c = 51 ∨ c = 52 ∨ c = 53 ∨ c = 54 ∨ c = 55 := by
  have h0 : ¬ c < 0 := fun z => absurd (Int32.lt_of_lt_of_le z (show (0 : Int32) ≤ 48 by decide)) (Int32.not_lt.mpr h1)
  obtain ⟨j, hj, rfl⟩ := nI_of2 (M := 55) (n := 55) (by decide) h0 h2
  have h3 : 48 ≤ j := (nI_leI (a := 48) (by decide) (by omega)).mp h1
  rcases (by omega : j = 48 ∨ j = 49 ∨ j = 50 ∨ j = 51 ∨ j = 52 ∨ j = 53 ∨ j = 54 ∨ j = 55) with rfl | rfl | rfl | rfl | rfl | rfl | rfl | rfl <;> decide
theorem tx_abc {c : Int32} (h1 : 97 ≤ c) (h2 : c ≤ 99) : c = 97 ∨ c = 98 ∨ c = 99 := by
  have h0 : ¬ c < 0 := fun z => absurd (Int32.lt_of_lt_of_le z (show (0 : Int32) ≤ 97 by decide)) (Int32.not_lt.mpr h1)
  obtain ⟨j, hj, rfl⟩ := nI_of2 (M := 99) (n := 99) (by decide) h0 h2
  have h3 : 97 ≤ j := (nI_leI (a := 97) (by decide) (by omega)).mp h1
  rcases (by omega : j = 97 ∨ j = 98 ∨ j = 99) with rfl | rfl | rfl <;> decide
/-- which characters there are, and what they ask of the stack -/
theorem tx_cs {c : Int32} {st st' : List Bool} (h : tx_s c st = some st') : ((c = 97 ∨ c = 98 ∨ c = 99 ∨ c = 120 ∨ c = 122 ∨ c = 84 ∨ c = 48 ∨ c = 49 ∨ c = 50 ∨ c = 51 ∨ c = 52 ∨ c = 53 ∨ c = 54 ∨ c = 55) ∧ st'.length = st.length + 1) ∨ (c = 33 ∧ 1 ≤ st.length ∧ st'.length = st.length) ∨ ((c = 43 ∨ c = 45 ∨ c = 42 ∨ c = 61 ∨ c = 60 ∨ c = 38 ∨ c = 124 ∨ c = 62) ∧ 2 ≤ st.length ∧ st'.length + 1 = st.length) := by
  unfold tx_s at h
  split at h
  next hz =>
    cases h
    left
    refine ⟨?_, rfl⟩
    unfold tx_z tx_n at hz
    simp only [Bool.or_eq_true, Bool.and_eq_true, decide_eq_true_eq, beq_iff_eq] at hz
    rcases hz with (⟨h1, h2⟩ | ⟨h1, h2⟩ | h1) | h1
    · rcases tx_dig h1 h2 with h | h | h | h | h | h | h | h <;> simp [h]
    · rcases tx_abc h1 h2 with h | h | h <;> simp [h]
    · simp [h1]
    · simp [h1]
  next =>
    split at h
    next hc => cases h; left; exact ⟨by simp [eq_of_beq hc], rfl⟩
    next =>
      split at h
      next hc =>
        split at h
        next => cases h; right; right; unfold tx_o at hc; simp only [Bool.or_eq_true, beq_iff_eq] at hc; exact ⟨by rcases hc with h | h | h <;> simp [h], by simp, by simp⟩
        next => cases h
      next =>
        split at h
        next hc =>
          split at h
          next => cases h; right; right; unfold tx_q at hc; simp only [Bool.or_eq_true, beq_iff_eq] at hc; exact ⟨by rcases hc with h | h <;> simp [h], by simp, by simp⟩
          next => cases h
        next =>
          split at h
          next hc =>
            split at h
            next => cases h; right; left; exact ⟨eq_of_beq hc, by simp, by simp⟩
            next => cases h
          next =>
            split at h
            next hc =>
              split at h
              next => cases h; right; right; unfold tx_b at hc; simp only [Bool.or_eq_true, beq_iff_eq] at hc; exact ⟨by rcases hc with h | h | h <;> simp [h], by simp, by simp⟩
              next => cases h
            next => cases h
theorem jg_wstep {G : ia_G} {h0 h : ia_H} {d sa i : Nat} {a b c ch : Int32} {z6 : Value} {t : List Int32} {L : List (Int64 × Int64 × Int64)} {tys tys' : List Bool} {Post : Option Value → ia_H → Prop} (hd : 4 ≤ d) (hT : sx_t h sa t) (hR : jg_R h0 h L) (hi : t[i]? = some ch) (hs : tx_s ch tys = some tys') (hl : tys.length = L.length) (hL : L.length < 120)
    (kk : ∀ h', jg_R h0 h' (jg_c a b c ch L) → sx_fr h h' jg_S → ia_Sx pg G kk_J_weigh d 0 0 254 [.ref 72, .ref sa, .int a, .int b, .int c, .int (nI i), .int ch] [] h' Post) : ia_Sx pg G kk_J_weigh d 0 0 13 [.ref 72, .ref sa, .int a, .int b, .int c, .int (nI i), z6] [] h Post := by
  obtain ⟨w, r, f, ha, hw, hfj, hch, hul, p1, p2⟩ := id hT
  have hit : i < t.length := (List.getElem?_eq_some_iff.mp hi).1
  have hcc := hch ch (List.mem_of_getElem? hi)
  obtain ⟨F1, F2, F3, hX, hF⟩ := id hR
  refine ia_go 2 rfl ?_
  rw [if_neg (nI_pos (by omega))]
  refine ia_go 2 rfl ?_
  refine jd_cV sa [.int (nI i)] [] 0 0 (d' := d - 1) rfl rfl rfl ha rfl rfl (by omega) (by omega) (by omega) (jd_char (by omega) ha hw (by omega) hit (hfj i ch hi) hcc.1 hcc.2) ?_
  rintro rv h' ⟨rfl, rfl⟩
  refine ia_go 1 rfl ?_
  dsimp only [ia_s1, ia_s2, ia_cl, ia_D, List.getElem?_cons_zero, List.getElem?_cons_succ, List.set_cons_zero, List.set_cons_succ]
  rcases tx_cs hs with ⟨hc, -⟩ | ⟨rfl, h1, -⟩ | ⟨hc, h2, -⟩
  · rcases hc with rfl | rfl | rfl | rfl | rfl | rfl | rfl | rfl | rfl | rfl | rfl | rfl | rfl | rfl
    ·
      refine ia_go 2 rfl ?_
      skip
      refine ia_go 2 rfl ?_
      refine jd_cV 72 [.int a] [] 0 0 (d' := d - 1) rfl rfl rfl hX.1.1 rfl rfl (by omega) (by omega) (by omega) (jg_pnum (by omega) hX.1 hL) ?_
      rintro rv h2 ⟨rfl, hE⟩
      refine ia_go 1 rfl ?_
      exact kk h2 (jg_R.push hX hF hE) hE.2.1
    ·
      refine ia_go 2 rfl ?_
      skip
      refine ia_go 2 rfl ?_
      refine jd_cV 72 [.int b] [] 0 0 (d' := d - 1) rfl rfl rfl hX.1.1 rfl rfl (by omega) (by omega) (by omega) (jg_pnum (by omega) hX.1 hL) ?_
      rintro rv h2 ⟨rfl, hE⟩
      refine ia_go 1 rfl ?_
      exact kk h2 (jg_R.push hX hF hE) hE.2.1
    ·
      refine ia_go 2 rfl ?_
      skip
      refine ia_go 2 rfl ?_
      refine jd_cV 72 [.int c] [] 0 0 (d' := d - 1) rfl rfl rfl hX.1.1 rfl rfl (by omega) (by omega) (by omega) (jg_pnum (by omega) hX.1 hL) ?_
      rintro rv h2 ⟨rfl, hE⟩
      refine ia_go 1 rfl ?_
      exact kk h2 (jg_R.push hX hF hE) hE.2.1
    ·
      refine ia_go 2 rfl ?_
      skip
      refine ia_go 1 rfl ?_
      refine ia_ldc2 rfl ?_
      refine ia_ldc2 rfl ?_
      refine ia_ldc2 rfl ?_
      refine jd_cV 72 [.long (-71777214294589696), .long (-281470681808896), .long (-4294967296)] [] 0 0 (d' := d - 1) rfl rfl rfl hX.1.1 rfl rfl (by omega) (by omega) (by omega) (jg_pile hX.1 hL) ?_
      rintro rv h2 ⟨rfl, hE⟩
      refine ia_go 1 rfl ?_
      exact kk h2 (jg_R.push hX hF hE) hE.2.1
    ·
      refine ia_go 2 rfl ?_
      skip
      refine ia_go 1 rfl ?_
      refine ia_ldc2 rfl ?_
      refine ia_ldc2 rfl ?_
      refine ia_ldc2 rfl ?_
      refine jd_cV 72 [.long (-6148914691236517206), .long (-3689348814741910324), .long (-1085102592571150096)] [] 0 0 (d' := d - 1) rfl rfl rfl hX.1.1 rfl rfl (by omega) (by omega) (by omega) (jg_pile hX.1 hL) ?_
      rintro rv h2 ⟨rfl, hE⟩
      refine ia_go 1 rfl ?_
      exact kk h2 (jg_R.push hX hF hE) hE.2.1
    ·
      refine ia_go 2 rfl ?_
      skip
      refine ia_go 1 rfl ?_
      refine ia_ldc2 rfl ?_
      refine ia_go 2 rfl ?_
      refine jd_cV 72 [.long (-1), .long (0), .long (0)] [] 0 0 (d' := d - 1) rfl rfl rfl hX.1.1 rfl rfl (by omega) (by omega) (by omega) (jg_pile hX.1 hL) ?_
      rintro rv h2 ⟨rfl, hE⟩
      refine ia_go 1 rfl ?_
      exact kk h2 (jg_R.push hX hF hE) hE.2.1
    ·
      refine ia_go 2 rfl ?_
      skip
      refine ia_go 4 rfl ?_
      refine jd_cV 72 [.int (48 - 48)] [] 0 0 (d' := d - 1) rfl rfl rfl hX.1.1 rfl rfl (by omega) (by omega) (by omega) (jg_pnum (by omega) hX.1 hL) ?_
      rintro rv h2 ⟨rfl, hE⟩
      refine ia_go 1 rfl ?_
      exact kk h2 (jg_R.push hX hF hE) hE.2.1
    ·
      refine ia_go 2 rfl ?_
      skip
      refine ia_go 4 rfl ?_
      refine jd_cV 72 [.int (49 - 48)] [] 0 0 (d' := d - 1) rfl rfl rfl hX.1.1 rfl rfl (by omega) (by omega) (by omega) (jg_pnum (by omega) hX.1 hL) ?_
      rintro rv h2 ⟨rfl, hE⟩
      refine ia_go 1 rfl ?_
      exact kk h2 (jg_R.push hX hF hE) hE.2.1
    ·
      refine ia_go 2 rfl ?_
      skip
      refine ia_go 4 rfl ?_
      refine jd_cV 72 [.int (50 - 48)] [] 0 0 (d' := d - 1) rfl rfl rfl hX.1.1 rfl rfl (by omega) (by omega) (by omega) (jg_pnum (by omega) hX.1 hL) ?_
      rintro rv h2 ⟨rfl, hE⟩
      refine ia_go 1 rfl ?_
      exact kk h2 (jg_R.push hX hF hE) hE.2.1
    ·
      refine ia_go 2 rfl ?_
      skip
      refine ia_go 4 rfl ?_
      refine jd_cV 72 [.int (51 - 48)] [] 0 0 (d' := d - 1) rfl rfl rfl hX.1.1 rfl rfl (by omega) (by omega) (by omega) (jg_pnum (by omega) hX.1 hL) ?_
      rintro rv h2 ⟨rfl, hE⟩
      refine ia_go 1 rfl ?_
      exact kk h2 (jg_R.push hX hF hE) hE.2.1
    ·
      refine ia_go 2 rfl ?_
      skip
      refine ia_go 4 rfl ?_
      refine jd_cV 72 [.int (52 - 48)] [] 0 0 (d' := d - 1) rfl rfl rfl hX.1.1 rfl rfl (by omega) (by omega) (by omega) (jg_pnum (by omega) hX.1 hL) ?_
      rintro rv h2 ⟨rfl, hE⟩
      refine ia_go 1 rfl ?_
      exact kk h2 (jg_R.push hX hF hE) hE.2.1
    ·
      refine ia_go 2 rfl ?_
      skip
      refine ia_go 4 rfl ?_
      refine jd_cV 72 [.int (53 - 48)] [] 0 0 (d' := d - 1) rfl rfl rfl hX.1.1 rfl rfl (by omega) (by omega) (by omega) (jg_pnum (by omega) hX.1 hL) ?_
      rintro rv h2 ⟨rfl, hE⟩
      refine ia_go 1 rfl ?_
      exact kk h2 (jg_R.push hX hF hE) hE.2.1
    ·
      refine ia_go 2 rfl ?_
      skip
      refine ia_go 4 rfl ?_
      refine jd_cV 72 [.int (54 - 48)] [] 0 0 (d' := d - 1) rfl rfl rfl hX.1.1 rfl rfl (by omega) (by omega) (by omega) (jg_pnum (by omega) hX.1 hL) ?_
      rintro rv h2 ⟨rfl, hE⟩
      refine ia_go 1 rfl ?_
      exact kk h2 (jg_R.push hX hF hE) hE.2.1
    ·
      refine ia_go 2 rfl ?_
      skip
      refine ia_go 4 rfl ?_
      refine jd_cV 72 [.int (55 - 48)] [] 0 0 (d' := d - 1) rfl rfl rfl hX.1.1 rfl rfl (by omega) (by omega) (by omega) (jg_pnum (by omega) hX.1 hL) ?_
      rintro rv h2 ⟨rfl, hE⟩
      refine ia_go 1 rfl ?_
      exact kk h2 (jg_R.push hX hF hE) hE.2.1
  · obtain ⟨P, L', rfl⟩ : ∃ P L', L = P :: L' := by
      cases L with
      | nil => rw [hl] at h1; cases h1
      | cons P L' => exact ⟨P, L', rfl⟩
    refine ia_go 2 rfl ?_
    skip
    refine ia_go 1 rfl ?_
    refine jd_cV 72 [] [] 0 0 (d' := d - 1) rfl rfl rfl hX.1.1 rfl rfl (by omega) (by omega) (by omega) (jg_neg hX.1 (by simp)) ?_
    rintro rv h2 ⟨rfl, hE⟩
    refine ia_go 1 rfl ?_
    exact kk h2 (jg_R.neg hX hF hE) hE.2.1
  · obtain ⟨P, Q, L', rfl⟩ : ∃ P Q L', L = P :: Q :: L' := by
      cases L with
      | nil => rw [hl] at h2; cases h2
      | cons P L' =>
        cases L' with
        | nil => rw [hl] at h2; simp at h2
        | cons Q L' => exact ⟨P, Q, L', rfl⟩
    have hc0 := hc
    have hjc : jg_c a b c ch (P :: Q :: L') = jg_op ch P Q :: L' := by
      rcases hc with rfl | rfl | rfl | rfl | rfl | rfl | rfl | rfl <;> rfl
    rw [hjc] at kk
    have fin : ia_Sx pg G kk_J_weigh d 0 0 248 [.ref 72, .ref sa, .int a, .int b, .int c, .int (nI i), .int ch] [] h' Post := by
      refine ia_go 2 rfl ?_
      refine jd_cV 72 [.int ch] [] 0 0 (d' := d - 1) rfl rfl rfl hX.1.1 rfl rfl (by omega) (by omega) (by omega) (jg_join (by omega) hX.1 (by simp) hc0) ?_
      rintro rv h2 ⟨rfl, hE⟩
      exact kk h2 (jg_R.op hX hF hE) (by obtain ⟨_, _, _, e1, -⟩ := hE; exact e1.2.1)
    rcases hc with rfl | rfl | rfl | rfl | rfl | rfl | rfl | rfl
    ·
      refine ia_go 2 rfl ?_
      skip
      exact fin
    ·
      refine ia_go 2 rfl ?_
      skip
      exact fin
    ·
      refine ia_go 2 rfl ?_
      skip
      exact fin
    ·
      refine ia_go 2 rfl ?_
      skip
      exact fin
    ·
      refine ia_go 2 rfl ?_
      skip
      exact fin
    ·
      refine ia_go 2 rfl ?_
      skip
      exact fin
    ·
      refine ia_go 2 rfl ?_
      skip
      exact fin
    ·
      refine ia_go 2 rfl ?_
      skip
      exact fin
