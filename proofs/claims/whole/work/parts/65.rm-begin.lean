/-! THE REFERENCE, 6: isNode, place, begin. -/
theorem rm_isNode {G : ia_G} {h0 : ia_H} {d : Nat} {n : Int32} {F : Nat → Nat → Int32} {S : Nat → Int32} (hm0 : rm h0 F S) : ia_Cn pg G kk_M_isNode d 0 0 [.ref 117, .int n] h0 (fun rv h' => h' = h0 ∧ (((¬ ∃ N, 1 ≤ N ∧ N ≤ 16 ∧ n = nI N ∧ F 2 N ≠ 0) ∧ rv = some (.int 0)) ∨ ∃ N, 1 ≤ N ∧ N ≤ 16 ∧ n = nI N ∧ F 2 N ≠ 0 ∧ rv = some (.int 1))) := by
  have hm := hm0.X
  by_cases h1 : n < 1
  ·
    refine jd_met (ls := [.ref 117, .int n]) rfl rfl rfl ?_
    refine ia_go 3 rfl ?_
    rw [if_pos h1]
    refine ia_go 1 rfl ?_
    exact jd_rv1 rfl rfl rfl rfl ⟨rfl, Or.inl ⟨by rintro ⟨N, g1, g2, rfl, -⟩; exact absurd h1 (nI_nlt (b := 1) g1 (by omega)), rfl⟩⟩
  by_cases h2 : 17 ≤ n
  ·
    refine jd_met (ls := [.ref 117, .int n]) rfl rfl rfl ?_
    refine ia_go 3 rfl ?_
    rw [if_neg h1]
    refine ia_go 3 rfl ?_
    rw [if_pos h2]
    refine ia_go 1 rfl ?_
    exact jd_rv1 rfl rfl rfl rfl ⟨rfl, Or.inl ⟨by rintro ⟨N, g1, g2, rfl, -⟩; exact absurd h2 (nI_ge (b := 17) (by omega) (by omega)), rfl⟩⟩
  have h0n : ¬ n < 0 := fun z => h1 (Int32.lt_of_lt_of_le z (by decide))
  obtain ⟨N, hN2, rfl⟩ := nI_of2 (M := 17) (n := 17) (by decide) h0n (Int32.le_of_lt (Int32.not_le.mp h2))
  have hN1 : 1 ≤ N := by
    rcases Nat.eq_zero_or_pos N with e | e
    · subst e; exact absurd (by decide) h1
    · exact e
  have hN3 : N ≤ 16 := by
    rcases Nat.lt_or_ge N 17 with e | e
    · omega
    · exact absurd (nI_le (a := 17) e (by omega)) h2
  by_cases h3 : F 2 N = 0
  ·
    refine jd_met (ls := [.ref 117, .int (nI N)]) rfl rfl rfl ?_
    refine ia_go 3 rfl ?_
    rw [if_neg h1]
    refine ia_go 3 rfl ?_
    rw [if_neg h2]
    refine ia_go 1 rfl ?_
    refine ia_getf rfl hm.1.1 rfl ?_
    refine ia_go 1 rfl ?_
    refine rm_zld (K := 2) rfl hm (by decide) rfl (show N < 17 by omega) (by decide) ?_
    refine ia_go 1 rfl ?_
    rw [if_pos h3]
    refine ia_go 1 rfl ?_
    exact jd_rv1 rfl rfl rfl rfl ⟨rfl, Or.inl ⟨by rintro ⟨M, g1, g2, e, g3⟩; rw [nI_eq (by omega) (by omega)] at e; subst e; exact g3 h3, rfl⟩⟩
  ·
    refine jd_met (ls := [.ref 117, .int (nI N)]) rfl rfl rfl ?_
    refine ia_go 3 rfl ?_
    rw [if_neg h1]
    refine ia_go 3 rfl ?_
    rw [if_neg h2]
    refine ia_go 1 rfl ?_
    refine ia_getf rfl hm.1.1 rfl ?_
    refine ia_go 1 rfl ?_
    refine rm_zld (K := 2) rfl hm (by decide) rfl (show N < 17 by omega) (by decide) ?_
    refine ia_go 1 rfl ?_
    rw [if_neg h3]
    refine ia_go 2 rfl ?_
    exact jd_rv1 rfl rfl rfl rfl ⟨rfl, Or.inr ⟨N, hN1, hN3, rfl, h3, rfl⟩⟩
def rm_pl (F : Nat → Nat → Int32) (n : Nat) (fr pa : Int32) : Nat → Nat → Int32 := rm_u (rm_u (rm_u (rm_u (rm_u (rm_u (rm_u (rm_u F 2 n 1) 3 n fr) 4 n 0) 5 n 0) 6 n 0) 7 n pa) 8 n 0) 9 n 0
theorem rm_place {G : ia_G} {h0 : ia_H} {d n : Nat} {fr pa : Int32} {F : Nat → Nat → Int32} {S : Nat → Int32} (hm0 : rm h0 F S) (hn : n < 17) : ia_Cn pg G kk_M_place d 0 0 [.ref 117, .int (nI n), .int fr, .int pa] h0 (fun rv h' => rv = none ∧ rm_X h0 h' (rm_pl F n fr pa) S) := by
  have hm := hm0.X
  refine jd_met (ls := [.ref 117, .int (nI n), .int fr, .int pa]) rfl rfl rfl ?_
  refine ia_go 1 rfl ?_
  refine ia_getf rfl hm.1.1 rfl ?_
  refine ia_go 2 rfl ?_
  refine rm_zst (K := 2) rfl hm (by decide) rfl (show n < 17 from hn) (by decide) (Or.inr rfl) (fun h1 hm => ?_)
  refine ia_go 1 rfl ?_
  refine ia_getf rfl hm.1.1 rfl ?_
  refine ia_go 2 rfl ?_
  refine rm_st (K := 3) rfl hm (by decide) rfl (show n < 17 from hn) (by decide) (fun h1 hm => ?_)
  refine ia_go 1 rfl ?_
  refine ia_getf rfl hm.1.1 rfl ?_
  refine ia_go 2 rfl ?_
  refine rm_st (K := 4) rfl hm (by decide) rfl (show n < 17 from hn) (by decide) (fun h1 hm => ?_)
  refine ia_go 1 rfl ?_
  refine ia_getf rfl hm.1.1 rfl ?_
  refine ia_go 2 rfl ?_
  refine rm_st (K := 5) rfl hm (by decide) rfl (show n < 17 from hn) (by decide) (fun h1 hm => ?_)
  refine ia_go 1 rfl ?_
  refine ia_getf rfl hm.1.1 rfl ?_
  refine ia_go 2 rfl ?_
  refine rm_st (K := 6) rfl hm (by decide) rfl (show n < 17 from hn) (by decide) (fun h1 hm => ?_)
  refine ia_go 1 rfl ?_
  refine ia_getf rfl hm.1.1 rfl ?_
  refine ia_go 2 rfl ?_
  refine rm_st (K := 7) rfl hm (by decide) rfl (show n < 17 from hn) (by decide) (fun h1 hm => ?_)
  refine ia_go 1 rfl ?_
  refine ia_getf rfl hm.1.1 rfl ?_
  refine ia_go 2 rfl ?_
  refine rm_st (K := 8) rfl hm (by decide) rfl (show n < 17 from hn) (by decide) (fun h1 hm => ?_)
  refine ia_go 1 rfl ?_
  refine ia_getf rfl hm.1.1 rfl ?_
  refine ia_go 2 rfl ?_
  refine rm_zst (K := 9) rfl hm (by decide) rfl (show n < 17 from hn) (by decide) (Or.inl rfl) (fun h1 hm => ?_)
  exact jd_rv0 rfl rfl rfl ⟨rfl, hm⟩
/-- what place leaves -/
theorem rm_pl_off {F : Nat → Nat → Int32} {n k j : Nat} {fr pa : Int32} (h : k < 2 ∨ 9 < k ∨ j ≠ n) : rm_pl F n fr pa k j = F k j := by
  unfold rm_pl rm_u
  by_cases hj : j = n
  · have hk : k < 2 ∨ 9 < k := by omega
    rw [if_neg (by omega), if_neg (by omega), if_neg (by omega), if_neg (by omega), if_neg (by omega), if_neg (by omega), if_neg (by omega), if_neg (by omega)]
  · simp [hj]
theorem rm_pl_at (F : Nat → Nat → Int32) (n : Nat) (fr pa : Int32) : rm_pl F n fr pa 2 n = 1 ∧ rm_pl F n fr pa 3 n = fr ∧ rm_pl F n fr pa 4 n = 0 ∧ rm_pl F n fr pa 5 n = 0 ∧ rm_pl F n fr pa 6 n = 0 ∧ rm_pl F n fr pa 7 n = pa ∧ rm_pl F n fr pa 8 n = 0 ∧ rm_pl F n fr pa 9 n = 0 := by
  unfold rm_pl rm_u
  simp
theorem rm_clloop {G : ia_G} {h0 : ia_H} {d : Nat} {fr : Int32} {F : Nat → Nat → Int32} {S : Nat → Int32} {Post : Option Value → ia_H → Prop} (kk : ∀ h' F', rm_X h0 h' F' S → (∀ j, 1 ≤ j → j ≤ 16 → F' 2 j = 0) → (∀ k j, k ≠ 2 ∨ j = 0 ∨ 17 ≤ j → F' k j = F k j) → ia_Sx pg G kk_M_begin d 0 0 33 [.ref 117, .int fr, .int (nI 17)] [] h' Post) : ∀ (r i : Nat), i + r = 17 → 1 ≤ i → ∀ (h : ia_H) (F1 : Nat → Nat → Int32), rm_X h0 h F1 S → (∀ j, 1 ≤ j → j < i → F1 2 j = 0) → (∀ k j, k ≠ 2 ∨ j = 0 ∨ 17 ≤ j → F1 k j = F k j) → ia_Sx pg G kk_M_begin d 0 0 14 [.ref 117, .int fr, .int (nI i)] [] h Post := by
  intro r
  induction r with
  | zero =>
    intro i hi h1i h F1 hm h1 h2
    obtain rfl : i = 17 := by omega
    refine ia_go 3 rfl ?_
    rw [if_pos (by decide)]
    exact kk h F1 hm (fun j g1 g2 => h1 j g1 (by omega)) h2
  | succ r ih =>
    intro i hi h1i h F1 hm h1 h2
    refine ia_go 3 rfl ?_
    rw [if_neg (show ¬ (17 : Int32) ≤ nI i from nI_ge (b := 17) (by omega) (by omega))]
    refine ia_go 1 rfl ?_
    refine ia_getf rfl hm.1.1 rfl ?_
    refine ia_go 2 rfl ?_
    refine rm_zst (K := 2) rfl hm (by decide) rfl (show i < 17 by omega) (by decide) (Or.inl rfl) (fun h9 hm => ?_)
    refine ia_go 1 rfl ?_
    dsimp only [ia_s1, ia_s2, ia_cl, ia_D, List.getElem?_cons_zero, List.getElem?_cons_succ, List.set_cons_zero, List.set_cons_succ]
    refine ia_go 1 rfl ?_
    rw [show nI i + Int32.ofInt 1 = nI (i + 1) from nI_1 i]
    refine ih (i + 1) (by omega) (by omega) _ _ hm (fun j g1 g2 => ?_) (fun k j hk => ?_)
    · by_cases hji : j = i
      · rw [hji, rm_uu]
      · rw [rm_un hji]; exact h1 j g1 (by omega)
    · by_cases hk2 : k = 2
      · subst hk2
        rw [rm_un (by omega)]; exact h2 2 j hk
      · rw [rm_uk hk2]; exact h2 k j hk
/-- the text of a slot becomes a text of node 1 -/
theorem rm_bgstep {G : ia_G} {h0 h : ia_H} {d i : Nat} {fr : Int32} {F : Nat → Nat → Int32} {S : Nat → Int32} {t : List Int32} {Post : Option Value → ia_H → Prop} (hd : 1 ≤ d) (hm : rm_X h0 h F S) (hi : i < 2) (ht : tm_s F i t) (kk : ∀ h' F', rm_X h0 h' F' S → tm_n F' 1 i t → (∀ k j, k ≠ 0 ∨ j < 500 + 121 * i ∨ 500 + 121 * i + 60 ≤ j → k ≠ 1 ∨ j ≠ 4 + i → F' k j = F k j) → ia_Sx pg G kk_M_begin d 0 0 42 [.ref 117, .int fr, .int (nI (i + 1))] [] h' Post) : ia_Sx pg G kk_M_begin d 0 0 42 [.ref 117, .int fr, .int (nI i)] [] h Post := by
  obtain ⟨g1, g2, g3⟩ := ht
  refine ia_go 3 rfl ?_
  rw [if_neg (show ¬ (2 : Int32) ≤ nI i from nI_ge (b := 2) hi (by decide))]
  refine ia_go 8 rfl ?_
  rw [rm_mul60]
  refine jd_cS [.int (nI 1), .int (nI i)] [.int (nI (9000 + 60 * i)), .ref 117] 0 0 (d' := d - 1) rfl rfl rfl rfl rfl (by omega) (by omega) (by omega) (rm_placeOf) ?_
  rintro rv h' ⟨rfl, rfl⟩
  refine ia_go 1 rfl ?_
  refine ia_getf rfl hm.1.1 rfl ?_
  refine ia_go 1 rfl ?_
  refine rm_ld (K := 1) rfl hm (by decide) rfl (show i < 70 by omega) (by decide) ?_
  rw [g2]
  refine jd_cV 117 [.int (nI (9000 + 60 * i)), .int (nI (500 * 1 + 121 * i)), .int (nI t.length)] [] 0 0 (d' := d - 1) rfl rfl rfl hm.1.1 rfl rfl (by omega) (by omega) (by omega) (rm_copy hm.1 (by omega) (by omega) (by omega) g1) ?_
  rintro rv h1 ⟨rfl, F1, hm1, ht1, hF1⟩
  have hm := hm.tr hm1
  refine ia_go 1 rfl ?_
  refine ia_getf rfl hm.1.1 rfl ?_
  refine ia_go 2 rfl ?_
  refine jd_cS [.int (nI 1), .int (nI i)] [.ref 119] 0 0 (d' := d - 1) rfl rfl rfl rfl rfl (by omega) (by omega) (by omega) (rm_lengthAt (by omega)) ?_
  rintro rv h' ⟨rfl, rfl⟩
  refine ia_go 1 rfl ?_
  refine ia_getf rfl hm.1.1 rfl ?_
  refine ia_go 1 rfl ?_
  refine rm_ld (K := 1) rfl hm (by decide) rfl (show i < 70 by omega) (by decide) ?_
  rw [hF1 1 i (Or.inl (by decide)), g2]
  refine rm_st (K := 1) rfl hm (by decide) rfl (show 4 + 4 * (1 - 1) + i < 70 by omega) (by decide) (fun h9 hm => ?_)
  refine ia_go 1 rfl ?_
  dsimp only [ia_s1, ia_s2, ia_cl, ia_D, List.getElem?_cons_zero, List.getElem?_cons_succ, List.set_cons_zero, List.set_cons_succ]
  refine ia_go 1 rfl ?_
  rw [show nI i + Int32.ofInt 1 = nI (i + 1) from nI_1 i]
  refine kk _ _ hm ⟨ht1.keep (fun j hj => rfl), rm_uu, by omega⟩ (fun k j hk0 hk1 => ?_)
  by_cases hk : k = 1
  · subst hk
    rw [rm_un (by rcases hk1 with h | h; exact absurd rfl h; omega)]
    exact hF1 1 j (Or.inl (by decide))
  · rw [rm_uk hk]
    exact hF1 k j (by omega)
/-- begin -/
theorem rm_begin {G : ia_G} {h0 : ia_H} {d : Nat} {fr : Int32} {F : Nat → Nat → Int32} {S : Nat → Int32} {t0 t1 : List Int32} (hd : 1 ≤ d) (hm0 : rm h0 F S) (ht0 : tm_s F 0 t0) (ht1 : tm_s F 1 t1) : ia_Cn pg G kk_M_begin d 0 0 [.ref 117, .int fr] h0 (fun rv h' => (¬ (0 ≤ fr ∧ fr ≤ 7) ∧ rv = some (.int (-1)) ∧ h' = h0) ∨ ((0 ≤ fr ∧ fr ≤ 7) ∧ rv = some (.int 1) ∧ ∃ F', rm_X h0 h' F' S ∧ tm_n F' 1 0 t0 ∧ tm_n F' 1 1 t1 ∧ F' 2 1 = 1 ∧ F' 3 1 = fr ∧ F' 4 1 = 0 ∧ F' 5 1 = 0 ∧ F' 6 1 = 0 ∧ F' 7 1 = 0 ∧ F' 8 1 = 0 ∧ F' 9 1 = 0 ∧ (∀ j, 2 ≤ j → j ≤ 16 → F' 2 j = 0) ∧ ∀ k j, k ≠ 0 ∨ j < 500 ∨ 742 ≤ j → k ≠ 1 ∨ (j ≠ 4 ∧ j ≠ 5) → k ≠ 2 ∨ j = 0 ∨ 17 ≤ j → k < 3 ∨ 9 < k ∨ j ≠ 1 → F' k j = F k j)) := by
  by_cases h1 : fr < 0
  ·
    refine jd_met (ls := [.ref 117, .int fr, .retAddr 0]) rfl rfl rfl ?_
    refine ia_go 2 rfl ?_
    rw [if_pos h1]
    refine ia_go 1 rfl ?_
    exact jd_rv1 rfl rfl rfl trivial (Or.inl ⟨fun z => absurd h1 (Int32.not_lt.mpr z.1), rfl, rfl⟩)
  by_cases h2 : fr ≤ 7
  case neg =>
    refine jd_met (ls := [.ref 117, .int fr, .retAddr 0]) rfl rfl rfl ?_
    refine ia_go 2 rfl ?_
    rw [if_neg h1]
    refine ia_go 3 rfl ?_
    rw [if_neg h2]
    refine ia_go 1 rfl ?_
    exact jd_rv1 rfl rfl rfl trivial (Or.inl ⟨fun z => h2 z.2, rfl, rfl⟩)
  refine jd_met (ls := [.ref 117, .int fr, .retAddr 0]) rfl rfl rfl ?_
  refine ia_go 2 rfl ?_
  rw [if_neg h1]
  refine ia_go 3 rfl ?_
  rw [if_pos h2]
  refine ia_go 2 rfl ?_
  dsimp only [ia_s1, ia_s2, ia_cl, ia_D, List.getElem?_cons_zero, List.getElem?_cons_succ, List.set_cons_zero, List.set_cons_succ]
  refine rm_clloop (F := F) (S := S) (h0 := h0) (fun h' F1 hm1 hz hF1 => ?_) 16 1 (by omega) (by omega) h0 F hm0.X (fun j g1 g2 => by omega) (fun _ _ _ => rfl)
  refine ia_go 4 rfl ?_
  refine jd_cV 117 [.int (nI 1), .int fr, .int 0] [] 0 0 (d' := d - 1) rfl rfl rfl hm1.1.1 rfl rfl (by omega) (by omega) (by omega) (rm_place hm1.1 (by omega)) ?_
  rintro rv h5 ⟨rfl, hm2⟩
  have hm2 := hm1.tr hm2
  refine ia_go 2 rfl ?_
  dsimp only [ia_s1, ia_s2, ia_cl, ia_D, List.getElem?_cons_zero, List.getElem?_cons_succ, List.set_cons_zero, List.set_cons_succ]
  obtain ⟨p2, p3, p4, p5, p6, p7, p8, p9⟩ := rm_pl_at F1 1 fr 0
  have off : ∀ k j, k < 2 → rm_pl F1 1 fr 0 k j = F k j := fun k j hk => (rm_pl_off (Or.inl hk)).trans (hF1 k j (Or.inl (by omega)))
  have hs0 : tm_s (rm_pl F1 1 fr 0) 0 t0 := ⟨ht0.1.keep (fun j hj => off 0 _ (by decide)), (off 1 0 (by decide)).trans ht0.2.1, ht0.2.2⟩
  refine rm_bgstep (i := 0) hd hm2 (by decide) hs0 (fun h3 F3 hm3 hn0 hF3 => ?_)
  have hs1 : tm_s F3 1 t1 := ⟨ht1.1.keep (fun j hj => (hF3 0 _ (by omega) (Or.inl (by decide))).trans (off 0 _ (by decide))), ((hF3 1 1 (Or.inl (by decide)) (Or.inr (by decide))).trans (off 1 1 (by decide))).trans ht1.2.1, ht1.2.2⟩
  refine rm_bgstep (i := 1) hd hm3 (by decide) hs1 (fun h4 F4 hm4 hn1 hF4 => ?_)
  have both : ∀ k j, k ≠ 0 ∨ j < 500 ∨ 742 ≤ j → k ≠ 1 ∨ (j ≠ 4 ∧ j ≠ 5) → F4 k j = rm_pl F1 1 fr 0 k j := fun k j g1 g2 => (hF4 k j (by omega) (by omega)).trans (hF3 k j (by omega) (by omega))
  have hi : ∀ k j, 2 ≤ k → F4 k j = rm_pl F1 1 fr 0 k j := fun k j hk => both k j (Or.inl (by omega)) (Or.inl (by omega))
  refine ia_go 3 rfl ?_
  rw [if_pos (by decide)]
  refine ia_go 1 rfl ?_
  refine jd_rv1 rfl rfl rfl trivial (Or.inr ⟨⟨Int32.not_lt.mp h1, h2⟩, rfl, F4, hm4, ?_, hn1, (hi 2 1 (by omega)).trans p2, (hi 3 1 (by omega)).trans p3, (hi 4 1 (by omega)).trans p4, (hi 5 1 (by omega)).trans p5, (hi 6 1 (by omega)).trans p6, (hi 7 1 (by omega)).trans p7, (hi 8 1 (by omega)).trans p8, (hi 9 1 (by omega)).trans p9, fun j g1 g2 => ?_, fun k j g1 g2 g3 g4 => ?_⟩)
  · exact ⟨hn0.1.keep (fun j hj => hF4 0 _ (by have := ht0.2.2; omega) (Or.inl (by decide))), (hF4 1 _ (Or.inl (by decide)) (Or.inr (by decide))).trans hn0.2.1, hn0.2.2⟩
  · rw [hi 2 j (by omega), rm_pl_off (by omega)]; exact hz j (by omega) g2
  · rw [both k j g1 g2, rm_pl_off (by omega)]; exact hF1 k j g3
