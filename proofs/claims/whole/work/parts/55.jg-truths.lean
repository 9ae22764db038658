/-! THE JUDGE, 6: weigh, truths, number. -/
theorem jg_clen {a b c ch : Int32} {L : List (Int64 × Int64 × Int64)} {st st' : List Bool} (h : tx_s ch st = some st') (hl : st.length = L.length) : (jg_c a b c ch L).length = st'.length := by
  rcases tx_cs h with ⟨hc, h1⟩ | ⟨rfl, h1, h2⟩ | ⟨hc, h1, h2⟩
  · rw [h1, hl]
    rcases hc with rfl | rfl | rfl | rfl | rfl | rfl | rfl | rfl | rfl | rfl | rfl | rfl | rfl | rfl <;> rfl
  · rw [h2, hl]
    cases L with
    | nil => rfl
    | cons P L => rfl
  · cases L with
    | nil => rw [hl] at h1; simp at h1
    | cons P L =>
      cases L with
      | nil => rw [hl] at h1; simp at h1
      | cons Q L =>
        rw [hl] at h2
        have h3 : st'.length = L.length + 1 := by simp at h2; omega
        rw [h3]
        rcases hc with rfl | rfl | rfl | rfl | rfl | rfl | rfl | rfl <;> rfl
theorem jg_len {a b c : Int32} : ∀ (u : List Int32) (y : List Bool), tx_f u [] = some y → (jg_e a b c u).length = y.length ∧ y.length ≤ u.length := by
  intro u
  induction u with
  | nil => intro y h; cases h; exact ⟨rfl, Nat.le_refl _⟩
  | cons ch u ih =>
    intro y h
    have h1 : (tx_f u []).bind (tx_s ch) = some y := h
    cases hu : tx_f u [] with
    | none => rw [hu] at h1; cases h1
    | some z =>
      rw [hu] at h1
      have h2 : tx_s ch z = some y := h1
      obtain ⟨g1, g2⟩ := ih z hu
      refine ⟨jg_clen h2 g1.symm, ?_⟩
      rcases tx_cs h2 with ⟨-, e⟩ | ⟨-, -, e⟩ | ⟨-, -, e⟩ <;> simp only [List.length_cons] <;> omega
theorem tx_drop {t : List Int32} {y : List Bool} (h : tx_f t [] = some y) (m : Nat) : ∃ z, tx_f (t.drop m) [] = some z := by
  have h1 : tx_f (t.take m ++ t.drop m) [] = some y := by rw [List.take_append_drop]; exact h
  rw [tx_f_app] at h1
  cases hz : tx_f (t.drop m) [] with
  | none => rw [hz] at h1; cases h1
  | some z => exact ⟨z, rfl⟩
theorem jg_wloop {G : ia_G} {h0 : ia_H} {d sa : Nat} {a b c : Int32} {t : List Int32} {y : List Bool} (hd : 4 ≤ d) (hty : tx_f t [] = some y) (htl : t.length ≤ 120) : ∀ (m : Nat), m ≤ t.length → ∀ (h : ia_H) (z6 : Value), jg_R h0 h (jg_e a b c (t.drop m)) → sx_t h sa t → ia_Sx pg G kk_J_weigh d 0 0 13 [.ref 72, .ref sa, .int a, .int b, .int c, .int (nI m - 1), z6] [] h (fun rv h' => rv = none ∧ jg_R h0 h' (jg_e a b c t)) := by
  intro m
  induction m with
  | zero =>
    intro hm h z6 hR hT
    refine ia_go 2 rfl ?_
    rw [if_pos (show nI 0 - 1 < 0 by decide)]
    exact jd_rv0 rfl rfl rfl ⟨rfl, hR⟩
  | succ i ih =>
    intro hm h z6 hR hT
    rw [nI_pred]
    have hit : i < t.length := by omega
    obtain ⟨z, hz⟩ := tx_drop hty (i + 1)
    obtain ⟨z2, hz2⟩ := tx_drop hty i
    rw [List.drop_eq_getElem_cons hit] at hz2
    have hs : tx_s t[i] z = some z2 := by
      have h1 : (tx_f (t.drop (i + 1)) []).bind (tx_s t[i]) = some z2 := hz2
      rw [hz] at h1
      exact h1
    obtain ⟨g1, g2⟩ := jg_len (a := a) (b := b) (c := c) _ _ hz
    rw [List.length_drop] at g2
    obtain ⟨F1, F2, F3, hX, -⟩ := id hR
    refine jg_wstep hd hT hR (List.getElem?_eq_getElem hit) hs g1.symm (by omega) (fun h' hR' hfr => ?_)
    refine ia_go 1 rfl ?_
    dsimp only [ia_s1, ia_s2, ia_cl, ia_D, List.getElem?_cons_zero, List.getElem?_cons_succ, List.set_cons_zero, List.set_cons_succ]
    refine ia_go 1 rfl ?_
    rw [show nI i + Int32.ofInt (-1) = nI i - 1 by rw [Int32.sub_eq_add_neg]; rfl]
    refine ih (by omega) h' _ ?_ (hT.keep hfr (jg_off hX.1))
    rw [List.drop_eq_getElem_cons hit]
    exact hR'
theorem jg_weigh {G : ia_G} {h0 : ia_H} {d sa n : Nat} {F1 F2 F3 : Nat → Int64} {a b c : Int32} {t : List Int32} {y : List Bool} (hd : 4 ≤ d) (hj0 : jg h0 F1 F2 F3 n) (hT : sx_t h0 sa t) (hty : tx_f t [] = some y) (htl : t.length ≤ 120) : ia_Cn pg G kk_J_weigh d 0 0 [.ref 72, .ref sa, .int a, .int b, .int c] h0 (fun rv h' => rv = none ∧ jg_R h0 h' (jg_e a b c t)) := by
  have hj := hj0.X
  refine jd_met (ls := [.ref 72, .ref sa, .int a, .int b, .int c, .retAddr 0, .retAddr 0]) rfl rfl rfl ?_
  refine ia_go 2 rfl ?_
  refine jg_ht (m := 0) rfl hj (by omega) (fun h1 hj => ?_)
  have hT1 := hT.keep hj.2.1 (jg_off hj0)
  obtain ⟨w, r, f, ha, hw, hfj, hch, hul, p1, p2⟩ := id hT1
  refine ia_go 1 rfl ?_
  refine jd_cV sa [] [] 0 0 (d' := d - 1) rfl rfl rfl ha rfl rfl (by omega) (by omega) (by omega) (jd_slen (by omega) ha hw) ?_
  rintro rv h' ⟨rfl, rfl⟩
  refine ia_go 3 rfl ?_
  dsimp only [ia_s1, ia_s2, ia_cl, ia_D, List.getElem?_cons_zero, List.getElem?_cons_succ, List.set_cons_zero, List.set_cons_succ]
  refine jg_wloop hd hty htl t.length (Nat.le_refl _) _ _ ?_ hT1
  rw [List.drop_length]
  exact ⟨F1, F2, F3, hj, fun i q hq => by simp [jg_e] at hq⟩
/-- one value on the pile -/
theorem jg_one {h0 h : ia_H} {q : Int64 × Int64 × Int64} (hR : jg_R h0 h [q]) : ∃ F1 F2 F3 : Nat → Int64, jg_X h0 h F1 F2 F3 1 ∧ F1 0 = q.1 ∧ F2 0 = q.2.1 ∧ F3 0 = q.2.2 := by
  obtain ⟨F1, F2, F3, hX, hF⟩ := hR
  have h1 := hF 0 q rfl
  refine ⟨F1, F2, F3, hX, ?_, ?_, ?_⟩
  · rw [← h1]; rfl
  · rw [← h1]; rfl
  · rw [← h1]; rfl
/-- the value of a formula or a term, as bits -/
def jg_v (a b c : Int32) (t : List Int32) : Int64 × Int64 × Int64 := (jg_e a b c t).headD (0, 0, 0)
theorem jg_single {a b c : Int32} {t : List Int32} {x : Bool} (h : tx_f t [] = some [x]) : jg_e a b c t = [jg_v a b c t] := by
  obtain ⟨g1, -⟩ := jg_len (a := a) (b := b) (c := c) t [x] h
  unfold jg_v
  cases he : jg_e a b c t with
  | nil => rw [he] at g1; cases g1
  | cons P L =>
    rw [he] at g1
    cases L with
    | nil => rfl
    | cons Q L => simp at g1
theorem jg_truths {G : ia_G} {h0 : ia_H} {d sa n : Nat} {F1 F2 F3 : Nat → Int64} {a b c : Int32} {t : List Int32} {x : Bool} (hd : 5 ≤ d) (hj0 : jg h0 F1 F2 F3 n) (hT : sx_t h0 sa t) (hty : tx_f t [] = some [x]) (htl : t.length ≤ 120) : ia_Cn pg G kk_J_truths d 0 0 [.ref 72, .ref sa, .int a, .int b, .int c] h0 (fun rv h' => rv = some (.long (jg_v a b c t).1) ∧ ∃ E1 E2 E3, jg_X h0 h' E1 E2 E3 1) := by
  refine jd_met (ls := [.ref 72, .ref sa, .int a, .int b, .int c]) rfl rfl rfl ?_
  refine ia_go 5 rfl ?_
  refine jd_cV 72 [.ref sa, .int a, .int b, .int c] [] 0 0 (d' := d - 1) rfl rfl rfl hj0.1 rfl rfl (by omega) (by omega) (by omega) (jg_weigh (by omega) hj0 hT hty htl) ?_
  rintro rv h2 ⟨rfl, hR⟩
  rw [jg_single hty] at hR
  obtain ⟨E1, E2, E3, hX, e1, e2, e3⟩ := jg_one hR
  refine ia_go 1 rfl ?_
  refine ia_getf rfl hX.1.1 rfl ?_
  refine ia_go 1 rfl ?_
  refine jg_ld1 (p := 0) rfl hX (by omega) ?_
  rw [e1]
  exact jd_rv1 rfl rfl rfl trivial ⟨rfl, E1, E2, E3, hX⟩
theorem jg_number {G : ia_G} {h0 : ia_H} {d sa n : Nat} {F1 F2 F3 : Nat → Int64} {a b c : Int32} {t : List Int32} {x : Bool} (hd : 5 ≤ d) (hj0 : jg h0 F1 F2 F3 n) (hT : sx_t h0 sa t) (hty : tx_f t [] = some [x]) (htl : t.length ≤ 120) : ia_Cn pg G kk_J_number d 0 0 [.ref 72, .ref sa, .int a, .int b, .int c] h0 (fun rv h' => rv = some (.int ((jg_v a b c t).1 &&& 1 ||| (jg_v a b c t).2.1 &&& 2 ||| (jg_v a b c t).2.2 &&& 4).toInt32) ∧ ∃ E1 E2 E3, jg_X h0 h' E1 E2 E3 1) := by
  refine jd_met (ls := [.ref 72, .ref sa, .int a, .int b, .int c]) rfl rfl rfl ?_
  refine ia_go 5 rfl ?_
  refine jd_cV 72 [.ref sa, .int a, .int b, .int c] [] 0 0 (d' := d - 1) rfl rfl rfl hj0.1 rfl rfl (by omega) (by omega) (by omega) (jg_weigh (by omega) hj0 hT hty htl) ?_
  rintro rv h2 ⟨rfl, hR⟩
  rw [jg_single hty] at hR
  obtain ⟨E1, E2, E3, hX, e1, e2, e3⟩ := jg_one hR
  refine ia_go 1 rfl ?_
  refine ia_getf rfl hX.1.1 rfl ?_
  refine ia_go 1 rfl ?_
  refine jg_ld1 (p := 0) rfl hX (by omega) ?_
  refine ia_go 3 rfl ?_
  refine ia_getf rfl hX.1.1 rfl ?_
  refine ia_go 1 rfl ?_
  refine jg_ld2 (p := 0) rfl hX (by omega) ?_
  refine ia_ldc2 rfl ?_
  refine ia_go 3 rfl ?_
  refine ia_getf rfl hX.1.1 rfl ?_
  refine ia_go 1 rfl ?_
  refine jg_ld3 (p := 0) rfl hX (by omega) ?_
  refine ia_ldc2 rfl ?_
  refine ia_go 3 rfl ?_
  rw [e1, e2, e3]
  exact jd_rv1 rfl rfl rfl trivial ⟨rfl, E1, E2, E3, hX⟩
