/-! THE REFERENCE, 12: child. -/
theorem rm_2k (k i : Nat) : (2 : Int32) * nI k + nI i = nI (2 * k + i) := by unfold nI; rw [Int32.ofNat_add, Int32.ofNat_mul]; rfl
theorem tm_m.len {F : Nat → Nat → Int32} {o : Nat} {U : List Int32} (h : tm_m F o U) (hl : U.length ≤ 120) : F 13 o = nI U.length ∧ tm_t F (9300 + 125 * o) U := by
  refine ⟨?_, fun j c hj => h.2 j c ?_ hj⟩
  · rw [h.1, Nat.min_eq_left (by omega)]
  · have := (List.getElem?_eq_some_iff.mp hj).1; omega
theorem rm_chstep {G : ia_G} {h0 h : ia_H} {d i k N : Nat} {fr n : Int32} {F : Nat → Nat → Int32} {S : Nat → Int32} {U : List Int32} {Post : Option Value → ia_H → Prop} (hd : 1 ≤ d) (hm : rm_X h0 h F S) (hi : i < 2) (hk : k < 2) (hN1 : 1 ≤ N) (hN : N ≤ 16) (hU : tm_m F (2 * k + i) U) (hl : U.length ≤ 120) (kk : ∀ h' F', rm_X h0 h' F' S → tm_n F' N i U → (∀ k j, k ≠ 0 ∨ j < 500 * N + 121 * i ∨ 500 * N + 121 * i + 120 ≤ j → k ≠ 1 ∨ j ≠ 4 + 4 * (N - 1) + i → F' k j = F k j) → ia_Sx pg G kk_M_child d 0 0 17 [.ref 117, .int n, .int (nI k), .int fr, .int (nI N), .int (nI (i + 1))] [] h' Post) : ia_Sx pg G kk_M_child d 0 0 17 [.ref 117, .int n, .int (nI k), .int fr, .int (nI N), .int (nI i)] [] h Post := by
  obtain ⟨u1, u2⟩ := hU.len hl
  refine ia_go 3 rfl ?_
  rw [if_neg (show ¬ (2 : Int32) ≤ nI i from nI_ge (b := 2) hi (by decide))]
  refine ia_go 12 rfl ?_
  rw [rm_2k, rm_mul125]
  refine jd_cS [.int (nI N), .int (nI i)] [.int (nI (9300 + 125 * (2 * k + i))), .ref 117] 0 0 (d' := d - 1) rfl rfl rfl rfl rfl (by omega) (by omega) (by omega) (rm_placeOf) ?_
  rintro rv h' ⟨rfl, rfl⟩
  refine ia_go 1 rfl ?_
  refine ia_getf rfl hm.1.1 rfl ?_
  refine ia_go 5 rfl ?_
  rw [rm_2k]
  refine rm_ld (K := 13) rfl hm (by decide) rfl (show 2 * k + i < 6 by omega) (by decide) ?_
  rw [u1]
  refine jd_cV 117 [.int (nI (9300 + 125 * (2 * k + i))), .int (nI (500 * N + 121 * i)), .int (nI U.length)] [] 0 0 (d' := d - 1) rfl rfl rfl hm.1.1 rfl rfl (by omega) (by omega) (by omega) (rm_copy hm.1 (by omega) (by omega) (by omega) u2) ?_
  rintro rv h1 ⟨rfl, F1, hm1, ht1, hF1⟩
  have hm := hm.tr hm1
  refine ia_go 1 rfl ?_
  refine ia_getf rfl hm.1.1 rfl ?_
  refine ia_go 2 rfl ?_
  refine jd_cS [.int (nI N), .int (nI i)] [.ref 119] 0 0 (d' := d - 1) rfl rfl rfl rfl rfl (by omega) (by omega) (by omega) (rm_lengthAt hN1) ?_
  rintro rv h' ⟨rfl, rfl⟩
  refine ia_go 1 rfl ?_
  refine ia_getf rfl hm.1.1 rfl ?_
  refine ia_go 5 rfl ?_
  rw [rm_2k]
  refine rm_ld (K := 13) rfl hm (by decide) rfl (show 2 * k + i < 6 by omega) (by decide) ?_
  rw [hF1 13 _ (Or.inl (by decide)), u1]
  refine rm_st (K := 1) rfl hm (by decide) rfl (show 4 + 4 * (N - 1) + i < 70 by omega) (by decide) (fun h9 hm => ?_)
  refine ia_go 1 rfl ?_
  dsimp only [ia_s1, ia_s2, ia_cl, ia_D, List.getElem?_cons_zero, List.getElem?_cons_succ, List.set_cons_zero, List.set_cons_succ]
  refine ia_go 1 rfl ?_
  rw [show nI i + Int32.ofInt 1 = nI (i + 1) from nI_1 i]
  refine kk _ _ hm ⟨ht1.keep (fun j hj => rfl), rm_uu, hl⟩ (fun k j hk0 hk1 => ?_)
  by_cases hk : k = 1
  · subst hk
    rw [rm_un (by rcases hk1 with h | h; exact absurd rfl h; omega)]
    exact hF1 1 j (Or.inl (by decide))
  · rw [rm_uk hk]
    exact hF1 k j (by omega)
theorem tm_m.far {F F' : Nat → Nat → Int32} {o : Nat} {U : List Int32} (h : tm_m F o U) (ho : o < 6) (hf : ∀ k j, (k = 0 ∧ 9300 ≤ j) ∨ k = 13 → F' k j = F k j) : tm_m F' o U := ⟨(hf 13 o (Or.inr rfl)).trans h.1, fun j c hj hc => (hf 0 _ (Or.inl ⟨rfl, by omega⟩)).trans (h.2 j c hj hc)⟩
/-- what a new child is -/
def ch_R (F F' : Nat → Nat → Int32) (N : Nat) (fr : Int32) (n : Nat) (U0 U1 : List Int32) : Prop := tm_n F' N 0 U0 ∧ tm_n F' N 1 U1 ∧ (F' 2 N = 1 ∧ F' 3 N = fr ∧ F' 4 N = 0 ∧ F' 5 N = 0 ∧ F' 6 N = 0 ∧ F' 7 N = nI n ∧ F' 8 N = 0 ∧ F' 9 N = 0) ∧ ∀ k j, k ≠ 0 ∨ j < 500 * N ∨ 500 * N + 241 ≤ j → k ≠ 1 ∨ (j ≠ 4 + 4 * (N - 1) ∧ j ≠ 4 + 4 * (N - 1) + 1) → k < 2 ∨ 9 < k ∨ j ≠ N → F' k j = F k j
theorem rm_child {G : ia_G} {h0 : ia_H} {d k N n : Nat} {fr : Int32} {F : Nat → Nat → Int32} {S : Nat → Int32} {U0 U1 : List Int32} (hd : 1 ≤ d) (hm0 : rm h0 F S) (hk : k < 2) (hN1 : 1 ≤ N) (hN : N ≤ 16) (hz : F 2 N = 0) (hl : ∀ j, 1 ≤ j → j < N → F 2 j ≠ 0) (hU0 : tm_m F (2 * k) U0) (hU1 : tm_m F (2 * k + 1) U1) (hl0 : U0.length ≤ 120) (hl1 : U1.length ≤ 120) : ia_Cn pg G kk_M_child d 0 0 [.ref 117, .int (nI n), .int (nI k), .int fr] h0 (fun rv h' => rv = some (.int (nI N)) ∧ ∃ F', rm_X h0 h' F' S ∧ ch_R F F' N fr n U0 U1) := by
  refine jd_met (ls := [.ref 117, .int (nI n), .int (nI k), .int fr, .retAddr 0, .retAddr 0]) rfl rfl rfl ?_
  refine ia_go 1 rfl ?_
  refine jd_cV 117 [] [] 0 0 (d' := d - 1) rfl rfl rfl hm0.1 rfl rfl (by omega) (by omega) (by omega) (rm_freeNode hm0 hN1 hN hz hl) ?_
  rintro rv h' ⟨rfl, rfl⟩
  refine ia_go 1 rfl ?_
  dsimp only [ia_s1, ia_s2, ia_cl, ia_D, List.getElem?_cons_zero, List.getElem?_cons_succ, List.set_cons_zero, List.set_cons_succ]
  refine ia_go 4 rfl ?_
  refine jd_cV 117 [.int (nI N), .int fr, .int (nI n)] [] 0 0 (d' := d - 1) rfl rfl rfl hm0.1 rfl rfl (by omega) (by omega) (by omega) (rm_place hm0 (by omega)) ?_
  rintro rv h1 ⟨rfl, hm1⟩
  refine ia_go 2 rfl ?_
  dsimp only [ia_s1, ia_s2, ia_cl, ia_D, List.getElem?_cons_zero, List.getElem?_cons_succ, List.set_cons_zero, List.set_cons_succ]
  obtain ⟨p2, p3, p4, p5, p6, p7, p8, p9⟩ := rm_pl_at F N fr (nI n)
  refine rm_chstep (i := 0) hd hm1 (by decide) hk hN1 hN (hU0.far (by omega) (fun k j h => rm_pl_off (by omega))) hl0 (fun h2 F2 hm2 hn0 hF2 => ?_)
  refine rm_chstep (i := 1) hd hm2 (by decide) hk hN1 hN ((hU1.far (F' := rm_pl F N fr (nI n)) (by omega) (fun k j h => rm_pl_off (by omega))).far (by omega) (fun k j h => hF2 k j (by omega) (by omega))) hl1 (fun h3 F3 hm3 hn1 hF3 => ?_)
  have both : ∀ k j, k ≠ 0 ∨ j < 500 * N ∨ 500 * N + 241 ≤ j → k ≠ 1 ∨ (j ≠ 4 + 4 * (N - 1) ∧ j ≠ 4 + 4 * (N - 1) + 1) → F3 k j = rm_pl F N fr (nI n) k j := fun k j g1 g2 => (hF3 k j (by omega) (by omega)).trans (hF2 k j (by omega) (by omega))
  have hi : ∀ k j, 2 ≤ k → F3 k j = rm_pl F N fr (nI n) k j := fun k j hk => both k j (Or.inl (by omega)) (Or.inl (by omega))
  refine ia_go 3 rfl ?_
  rw [if_pos (by decide)]
  refine ia_go 1 rfl ?_
  refine jd_rv1 rfl rfl rfl trivial ⟨rfl, F3, hm3, ?_, hn1, ⟨(hi 2 N (by omega)).trans p2, (hi 3 N (by omega)).trans p3, (hi 4 N (by omega)).trans p4, (hi 5 N (by omega)).trans p5, (hi 6 N (by omega)).trans p6, (hi 7 N (by omega)).trans p7, (hi 8 N (by omega)).trans p8, (hi 9 N (by omega)).trans p9⟩, fun k j g1 g2 g4 => ?_⟩
  · exact ⟨hn0.1.keep (fun j hj => hF3 0 _ (by omega) (Or.inl (by decide))), (hF3 1 _ (Or.inl (by decide)) (Or.inr (by omega))).trans hn0.2.1, hn0.2.2⟩
  · rw [both k j g1 g2]; exact rm_pl_off g4
