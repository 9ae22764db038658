/-! THE REFERENCE, 3: wrong. -/
def rm_wr (p : Nat) (o : Option Nat) : Int32 := match o with
  | some q => nI (p + q)
  | none => -1
theorem rm_wr_map (p : Nat) (o : Option Nat) : rm_wr p (o.map (· + 1)) = rm_wr (p + 1) o := by
  cases o with
  | none => rfl
  | some q => show nI (p + (q + 1)) = nI (p + 1 + q); congr 1; omega
theorem rm_wp0 {G : ia_G} {h0 h : ia_H} {d a p : Nat} {F : Nat → Nat → Int32} {S : Nat → Int32} {kd : Int32} {z4 z5 : Value} {Post : Option Value → ia_H → Prop} (hm : rm_X h0 h F S) (ha : a < 128) (kk : ∀ (h' : ia_H) (z4 z5 : Value), rm_X h0 h' F S → ia_Sx pg G kk_M_wrong d 0 0 11 [.ref 117, .int kd, .int (nI (a + 0)), .int (nI (p + 1)), z4, z5] [] h' Post) : ia_Sx pg G kk_M_wrong d 0 0 47 [.ref 117, .int kd, .int (nI a), .int (nI p), z4, z5] [.int 0] h Post := by
  refine ia_go 1 rfl ?_
  dsimp only [ia_s1, ia_s2, ia_cl, ia_D, List.getElem?_cons_zero, List.getElem?_cons_succ, List.set_cons_zero, List.set_cons_succ]
  refine ia_go 2 rfl ?_
  rw [if_pos (by decide)]
  refine ia_go 2 rfl ?_
  dsimp only [ia_s1, ia_s2, ia_cl, ia_D, List.getElem?_cons_zero, List.getElem?_cons_succ, List.set_cons_zero, List.set_cons_succ]
  refine ia_go 5 rfl ?_
  rw [if_pos (by decide)]
  refine ia_go 1 rfl ?_
  dsimp only [ia_s1, ia_s2, ia_cl, ia_D, List.getElem?_cons_zero, List.getElem?_cons_succ, List.set_cons_zero, List.set_cons_succ]
  refine ia_go 1 rfl ?_
  rw [show nI p + Int32.ofInt 1 = nI (p + 1) from nI_1 p]
  exact kk _ _ _ hm
theorem rm_wp12 {G : ia_G} {h0 h : ia_H} {d a p : Nat} {F : Nat → Nat → Int32} {S : Nat → Int32} {kd : Int32} {z4 z5 : Value} {Post : Option Value → ia_H → Prop} (hm : rm_X h0 h F S) (ha : a < 128) (kk : ∀ (h' : ia_H) (z4 z5 : Value), rm_X h0 h' (rm_u F 14 a 2) S → ia_Sx pg G kk_M_wrong d 0 0 11 [.ref 117, .int kd, .int (nI (a + 1)), .int (nI (p + 1)), z4, z5] [] h' Post) : ia_Sx pg G kk_M_wrong d 0 0 47 [.ref 117, .int kd, .int (nI a), .int (nI p), z4, z5] [.int 12] h Post := by
  refine ia_go 1 rfl ?_
  dsimp only [ia_s1, ia_s2, ia_cl, ia_D, List.getElem?_cons_zero, List.getElem?_cons_succ, List.set_cons_zero, List.set_cons_succ]
  refine ia_go 2 rfl ?_
  rw [if_pos (by decide)]
  refine ia_go 2 rfl ?_
  dsimp only [ia_s1, ia_s2, ia_cl, ia_D, List.getElem?_cons_zero, List.getElem?_cons_succ, List.set_cons_zero, List.set_cons_succ]
  refine ia_go 5 rfl ?_
  rw [if_neg (by decide)]
  refine ia_go 1 rfl ?_
  refine ia_getf rfl hm.1.1 rfl ?_
  refine ia_go 4 rfl ?_
  refine rm_st (K := 14) rfl hm (by decide) rfl (show a < 130 by omega) (by decide) (fun h1 hm => ?_)
  refine ia_go 1 rfl ?_
  dsimp only [ia_s1, ia_s2, ia_cl, ia_D, List.getElem?_cons_zero, List.getElem?_cons_succ, List.set_cons_zero, List.set_cons_succ]
  refine ia_go 1 rfl ?_
  dsimp only [ia_s1, ia_s2, ia_cl, ia_D, List.getElem?_cons_zero, List.getElem?_cons_succ, List.set_cons_zero, List.set_cons_succ]
  refine ia_go 1 rfl ?_
  rw [show nI a + Int32.ofInt 1 = nI (a + 1) from nI_1 _]
  refine ia_go 5 rfl ?_
  rw [if_pos (by decide)]
  refine ia_go 1 rfl ?_
  dsimp only [ia_s1, ia_s2, ia_cl, ia_D, List.getElem?_cons_zero, List.getElem?_cons_succ, List.set_cons_zero, List.set_cons_succ]
  refine ia_go 1 rfl ?_
  rw [show nI p + Int32.ofInt 1 = nI (p + 1) from nI_1 p]
  exact kk _ _ _ hm
theorem rm_wp21 {G : ia_G} {h0 h : ia_H} {d a p : Nat} {F : Nat → Nat → Int32} {S : Nat → Int32} {kd : Int32} {z4 z5 : Value} {Post : Option Value → ia_H → Prop} (hm : rm_X h0 h F S) (ha : a < 128) (kk : ∀ (h' : ia_H) (z4 z5 : Value), rm_X h0 h' (rm_u (rm_u F 14 a 1) 14 (a + 1) 1) S → ia_Sx pg G kk_M_wrong d 0 0 11 [.ref 117, .int kd, .int (nI (a + 2)), .int (nI (p + 1)), z4, z5] [] h' Post) : ia_Sx pg G kk_M_wrong d 0 0 47 [.ref 117, .int kd, .int (nI a), .int (nI p), z4, z5] [.int 21] h Post := by
  refine ia_go 1 rfl ?_
  dsimp only [ia_s1, ia_s2, ia_cl, ia_D, List.getElem?_cons_zero, List.getElem?_cons_succ, List.set_cons_zero, List.set_cons_succ]
  refine ia_go 2 rfl ?_
  rw [if_pos (by decide)]
  refine ia_go 2 rfl ?_
  dsimp only [ia_s1, ia_s2, ia_cl, ia_D, List.getElem?_cons_zero, List.getElem?_cons_succ, List.set_cons_zero, List.set_cons_succ]
  refine ia_go 5 rfl ?_
  rw [if_neg (by decide)]
  refine ia_go 1 rfl ?_
  refine ia_getf rfl hm.1.1 rfl ?_
  refine ia_go 4 rfl ?_
  refine rm_st (K := 14) rfl hm (by decide) rfl (show a < 130 by omega) (by decide) (fun h1 hm => ?_)
  refine ia_go 1 rfl ?_
  dsimp only [ia_s1, ia_s2, ia_cl, ia_D, List.getElem?_cons_zero, List.getElem?_cons_succ, List.set_cons_zero, List.set_cons_succ]
  refine ia_go 1 rfl ?_
  dsimp only [ia_s1, ia_s2, ia_cl, ia_D, List.getElem?_cons_zero, List.getElem?_cons_succ, List.set_cons_zero, List.set_cons_succ]
  refine ia_go 1 rfl ?_
  rw [show nI a + Int32.ofInt 1 = nI (a + 1) from nI_1 _]
  refine ia_go 5 rfl ?_
  rw [if_neg (by decide)]
  refine ia_go 1 rfl ?_
  refine ia_getf rfl hm.1.1 rfl ?_
  refine ia_go 4 rfl ?_
  refine rm_st (K := 14) rfl hm (by decide) rfl (show a + 1 < 130 by omega) (by decide) (fun h1 hm => ?_)
  refine ia_go 1 rfl ?_
  dsimp only [ia_s1, ia_s2, ia_cl, ia_D, List.getElem?_cons_zero, List.getElem?_cons_succ, List.set_cons_zero, List.set_cons_succ]
  refine ia_go 1 rfl ?_
  dsimp only [ia_s1, ia_s2, ia_cl, ia_D, List.getElem?_cons_zero, List.getElem?_cons_succ, List.set_cons_zero, List.set_cons_succ]
  refine ia_go 1 rfl ?_
  rw [show nI (a + 1) + Int32.ofInt 1 = nI (a + 2) from nI_1 _]
  refine ia_go 5 rfl ?_
  rw [if_pos (by decide)]
  refine ia_go 1 rfl ?_
  dsimp only [ia_s1, ia_s2, ia_cl, ia_D, List.getElem?_cons_zero, List.getElem?_cons_succ, List.set_cons_zero, List.set_cons_succ]
  refine ia_go 1 rfl ?_
  rw [show nI p + Int32.ofInt 1 = nI (p + 1) from nI_1 p]
  exact kk _ _ _ hm
theorem rm_wp22 {G : ia_G} {h0 h : ia_H} {d a p : Nat} {F : Nat → Nat → Int32} {S : Nat → Int32} {kd : Int32} {z4 z5 : Value} {Post : Option Value → ia_H → Prop} (hm : rm_X h0 h F S) (ha : a < 128) (kk : ∀ (h' : ia_H) (z4 z5 : Value), rm_X h0 h' (rm_u (rm_u F 14 a 2) 14 (a + 1) 2) S → ia_Sx pg G kk_M_wrong d 0 0 11 [.ref 117, .int kd, .int (nI (a + 2)), .int (nI (p + 1)), z4, z5] [] h' Post) : ia_Sx pg G kk_M_wrong d 0 0 47 [.ref 117, .int kd, .int (nI a), .int (nI p), z4, z5] [.int 22] h Post := by
  refine ia_go 1 rfl ?_
  dsimp only [ia_s1, ia_s2, ia_cl, ia_D, List.getElem?_cons_zero, List.getElem?_cons_succ, List.set_cons_zero, List.set_cons_succ]
  refine ia_go 2 rfl ?_
  rw [if_pos (by decide)]
  refine ia_go 2 rfl ?_
  dsimp only [ia_s1, ia_s2, ia_cl, ia_D, List.getElem?_cons_zero, List.getElem?_cons_succ, List.set_cons_zero, List.set_cons_succ]
  refine ia_go 5 rfl ?_
  rw [if_neg (by decide)]
  refine ia_go 1 rfl ?_
  refine ia_getf rfl hm.1.1 rfl ?_
  refine ia_go 4 rfl ?_
  refine rm_st (K := 14) rfl hm (by decide) rfl (show a < 130 by omega) (by decide) (fun h1 hm => ?_)
  refine ia_go 1 rfl ?_
  dsimp only [ia_s1, ia_s2, ia_cl, ia_D, List.getElem?_cons_zero, List.getElem?_cons_succ, List.set_cons_zero, List.set_cons_succ]
  refine ia_go 1 rfl ?_
  dsimp only [ia_s1, ia_s2, ia_cl, ia_D, List.getElem?_cons_zero, List.getElem?_cons_succ, List.set_cons_zero, List.set_cons_succ]
  refine ia_go 1 rfl ?_
  rw [show nI a + Int32.ofInt 1 = nI (a + 1) from nI_1 _]
  refine ia_go 5 rfl ?_
  rw [if_neg (by decide)]
  refine ia_go 1 rfl ?_
  refine ia_getf rfl hm.1.1 rfl ?_
  refine ia_go 4 rfl ?_
  refine rm_st (K := 14) rfl hm (by decide) rfl (show a + 1 < 130 by omega) (by decide) (fun h1 hm => ?_)
  refine ia_go 1 rfl ?_
  dsimp only [ia_s1, ia_s2, ia_cl, ia_D, List.getElem?_cons_zero, List.getElem?_cons_succ, List.set_cons_zero, List.set_cons_succ]
  refine ia_go 1 rfl ?_
  dsimp only [ia_s1, ia_s2, ia_cl, ia_D, List.getElem?_cons_zero, List.getElem?_cons_succ, List.set_cons_zero, List.set_cons_succ]
  refine ia_go 1 rfl ?_
  rw [show nI (a + 1) + Int32.ofInt 1 = nI (a + 2) from nI_1 _]
  refine ia_go 5 rfl ?_
  rw [if_pos (by decide)]
  refine ia_go 1 rfl ?_
  dsimp only [ia_s1, ia_s2, ia_cl, ia_D, List.getElem?_cons_zero, List.getElem?_cons_succ, List.set_cons_zero, List.set_cons_succ]
  refine ia_go 1 rfl ?_
  rw [show nI p + Int32.ofInt 1 = nI (p + 1) from nI_1 p]
  exact kk _ _ _ hm
theorem rm_wloop {G : ia_G} {h0 : ia_H} {d : Nat} {S : Nat → Int32} {kd : Int32} {F0 : Nat → Nat → Int32} (hd : 2 ≤ d) : ∀ (u : List Int32) (m f p : Nat) (F : Nat → Nat → Int32) (h : ia_H) (z4 z5 : Value), rm_X h0 h F S → (∀ j c, u[j]? = some c → F 0 (10500 + p + j) = c) → S 0 = nI (p + u.length) → p + u.length ≤ 60 → m + f ≤ p + 1 → (∀ j, j < f → F 14 j = 2) → (∀ j, f ≤ j → j < f + m → F 14 j = 1) → (∀ k j, k ≠ 14 → F k j = F0 k j) → ia_Sx pg G kk_M_wrong d 0 0 11 [.ref 117, .int kd, .int (nI (m + f)), .int (nI p), z4, z5] [] h (fun rv h' => rv = some (.int (rm_wr p (tx_w m f u))) ∧ ∃ F', rm_X h0 h' F' S ∧ ∀ k j, k ≠ 14 → F' k j = F0 k j) := by
  intro u
  induction u with
  | nil =>
    intro m f p F h z4 z5 hm ht hS hp hmf h2 h1 hF
    by_cases hn : m + f = 0
    ·
      refine ia_go 2 rfl ?_
      rw [if_pos (show nI (m + f) ≤ 0 by rw [hn]; decide)]
      refine ia_go 2 rfl ?_
      refine ia_getf rfl hm.1.1 rfl ?_
      refine ia_go 1 rfl ?_
      rw [if_pos (show S 0 ≤ nI p by rw [hS]; exact nI_le (by simp) (by simp at hp; omega))]
      refine ia_go 1 rfl ?_
      exact jd_rv1 rfl rfl rfl trivial ⟨by rw [show m = 0 by omega, show f = 0 by omega]; rfl, F, hm, hF⟩
    ·
      refine ia_go 2 rfl ?_
      rw [if_neg (nI_nle (by omega) (by omega))]
      refine ia_go 2 rfl ?_
      refine ia_getf rfl hm.1.1 rfl ?_
      refine ia_go 1 rfl ?_
      rw [if_neg (show ¬ ¬ nI p = S 0 from fun z => z (by rw [hS]; simp))]
      refine ia_go 1 rfl ?_
      exact jd_rv1 rfl rfl rfl trivial ⟨by unfold tx_w; rw [if_pos (by omega)]; rfl, F, hm, hF⟩
  | cons c u ih =>
    intro m f p F h z4 z5 hm ht hS hp hmf h2 h1 hF
    simp only [List.length_cons] at hS hp
    have hc0 : F 0 (10500 + p) = c := ht 0 c rfl
    have hpS : ¬ nI p = S 0 := by rw [hS, nI_eq (by omega) (by omega)]; omega
    by_cases hn : m + f = 0
    ·
      refine ia_go 2 rfl ?_
      rw [if_pos (show nI (m + f) ≤ 0 by rw [hn]; decide)]
      refine ia_go 2 rfl ?_
      refine ia_getf rfl hm.1.1 rfl ?_
      refine ia_go 1 rfl ?_
      rw [if_neg (show ¬ S 0 ≤ nI p by rw [hS]; exact nI_ge (by omega) (by omega))]
      refine ia_go 2 rfl ?_
      exact jd_rv1 rfl rfl rfl trivial ⟨by unfold tx_w; rw [if_neg (by omega), if_pos (by omega)]; rfl, F, hm, hF⟩
    have go : ∀ (kd2 w : Int32), F 14 (m + f - 1) = kd2 → ia_Cn pg G kk_M_wants (d - 1) 0 0 [.int kd2, .int c] h (fun rv h' => rv = some (.int w) ∧ h' = h) → ia_Sx pg G kk_M_wrong d 0 0 47 [.ref 117, .int kd, .int (nI (m + f - 1)), .int (nI p), z4, z5] [.int w] h (fun rv h' => rv = some (.int (rm_wr p (tx_w m f (c :: u)))) ∧ ∃ F', rm_X h0 h' F' S ∧ ∀ k j, k ≠ 14 → F' k j = F0 k j) → ia_Sx pg G kk_M_wrong d 0 0 11 [.ref 117, .int kd, .int (nI (m + f)), .int (nI p), z4, z5] [] h (fun rv h' => rv = some (.int (rm_wr p (tx_w m f (c :: u)))) ∧ ∃ F', rm_X h0 h' F' S ∧ ∀ k j, k ≠ 14 → F' k j = F0 k j) := by
      intro kd2 w hk2 hK k9
      refine ia_go 2 rfl ?_
      rw [if_neg (nI_nle (by omega) (by omega))]
      refine ia_go 2 rfl ?_
      refine ia_getf rfl hm.1.1 rfl ?_
      refine ia_go 1 rfl ?_
      rw [if_pos hpS]
      refine ia_go 1 rfl ?_
      dsimp only [ia_s1, ia_s2, ia_cl, ia_D, List.getElem?_cons_zero, List.getElem?_cons_succ, List.set_cons_zero, List.set_cons_succ]
      rw [show nI (m + f) + Int32.ofInt (-1) = nI (m + f - 1) by rw [show Int32.ofInt (-1) = -1 by rfl, ← Int32.sub_eq_add_neg]; exact jd_sub (b := 1) (by omega)]
      refine ia_go 1 rfl ?_
      refine ia_getf rfl hm.1.1 rfl ?_
      refine ia_go 1 rfl ?_
      refine rm_ld (K := 14) rfl hm (by decide) rfl (show m + f - 1 < 130 by omega) (by decide) ?_
      refine ia_go 1 rfl ?_
      refine ia_getf rfl hm.1.1 rfl ?_
      refine ia_go 3 rfl ?_
      rw [show (10500 : Int32) + nI p = nI (10500 + p) from nI_add 10500 p]
      refine rm_ld (K := 0) rfl hm (by decide) rfl (show 10500 + p < 10600 by omega) (by decide) ?_
      rw [hc0, hk2]
      refine jd_cS [.int kd2, .int c] [] 0 0 (d' := d - 1) rfl rfl rfl rfl rfl (by omega) (by omega) (by omega) (hK) ?_
      rintro rv h' ⟨rfl, rfl⟩
      exact k9
    have bad : ia_Sx pg G kk_M_wrong d 0 0 47 [.ref 117, .int kd, .int (nI (m + f - 1)), .int (nI p), z4, z5] [.int (-1)] h (fun rv h' => rv = some (.int (nI p)) ∧ ∃ F', rm_X h0 h' F' S ∧ ∀ k j, k ≠ 14 → F' k j = F0 k j) := by
      refine ia_go 1 rfl ?_
      dsimp only [ia_s1, ia_s2, ia_cl, ia_D, List.getElem?_cons_zero, List.getElem?_cons_succ, List.set_cons_zero, List.set_cons_succ]
      refine ia_go 2 rfl ?_
      rw [if_neg (by decide)]
      refine ia_go 1 rfl ?_
      exact jd_rv1 rfl rfl rfl trivial ⟨rfl, F, hm, hF⟩
    have ht' : ∀ (F' : Nat → Nat → Int32), (∀ j, F' 0 j = F 0 j) → ∀ j c, u[j]? = some c → F' 0 (10500 + (p + 1) + j) = c := fun F' e j c hj => by
      rw [e, show 10500 + (p + 1) + j = 10500 + p + (j + 1) by omega]; exact ht (j + 1) c hj
    have hS' : S 0 = nI (p + 1 + u.length) := by rw [hS]; congr 1; omega
    by_cases hm0 : 0 < m
    · refine go 1 (rm_w1 c) (h1 _ (by omega) (by omega)) (rm_wants1 (by omega)) ?_
      have e0 : tx_w m f (c :: u) = if tx_o c then (tx_w (m + 1) f u).map (· + 1) else if tx_n c then (tx_w (m - 1) f u).map (· + 1) else some 0 := by
        rw [tx_w]; rw [if_pos hm0]
      rw [e0]
      unfold rm_w1
      by_cases ho : tx_o c = true
      · rw [if_pos ho, if_pos ho, rm_wr_map]
        refine rm_wp21 hm (by omega) (fun h' z4 z5 hm' => ?_)
        rw [show m + f - 1 + 2 = (m + 1) + f by omega]
        refine ih (m + 1) f (p + 1) _ h' z4 z5 hm' (ht' _ (fun j => rfl)) hS' (by omega) (by omega) (fun j hj => ?_) (fun j hj1 hj2 => ?_) (fun k j hk => ?_)
        · rw [rm_un (by omega), rm_un (by omega)]; exact h2 j hj
        · by_cases e1 : j = m + f - 1 + 1
          · rw [e1, rm_uu]
          · rw [rm_un e1]
            by_cases e2 : j = m + f - 1
            · rw [e2, rm_uu]
            · rw [rm_un e2]; exact h1 j hj1 (by omega)
        · rw [rm_uk hk, rm_uk hk]; exact hF k j hk
      · rw [if_neg ho, if_neg ho]
        by_cases hnn : tx_n c = true
        · rw [if_pos hnn, if_pos hnn, rm_wr_map]
          refine rm_wp0 hm (by omega) (fun h' z4 z5 hm' => ?_)
          rw [show m + f - 1 + 0 = (m - 1) + f by omega]
          exact ih (m - 1) f (p + 1) _ h' z4 z5 hm' (ht' _ (fun j => rfl)) hS' (by omega) (by omega) h2 (fun j hj1 hj2 => h1 j hj1 (by omega)) hF
        · rw [if_neg hnn, if_neg hnn]
          exact bad
    · have hmz : m = 0 := by omega
      subst hmz
      have hf0 : 0 < f := by omega
      refine go 2 (rm_w2 c) (h2 _ (by omega)) rm_wants2 ?_
      have e0 : tx_w 0 f (c :: u) = if tx_q c then (tx_w 2 (f - 1) u).map (· + 1) else if tx_b c then (tx_w 0 (f + 1) u).map (· + 1) else if c == 84 then (tx_w 0 (f - 1) u).map (· + 1) else if c == 33 then (tx_w 0 f u).map (· + 1) else some 0 := by
        rw [tx_w]; rw [if_neg (by omega), if_neg (by omega)]
      rw [e0, rm_w2_eq]
      rw [show (0 + f - 1) = f - 1 by omega]
      by_cases c1 : c = 84
      · subst c1
        rw [if_pos rfl]
        show ia_Sx pg G kk_M_wrong d 0 0 47 _ _ h (fun rv h' => rv = some (.int (rm_wr p ((tx_w 0 (f - 1) u).map (· + 1)))) ∧ _)
        rw [rm_wr_map]
        refine rm_wp0 hm (by omega) (fun h' z4 z5 hm' => ?_)
        rw [show f - 1 + 0 = 0 + (f - 1) by omega]
        exact ih 0 (f - 1) (p + 1) _ h' z4 z5 hm' (ht' _ (fun j => rfl)) hS' (by omega) (by omega) (fun j hj => h2 j (by omega)) (fun j hj1 hj2 => by omega) hF
      rw [if_neg c1]
      by_cases c2 : c = 61 ∨ c = 60
      · rw [if_pos c2]
        have q1 : tx_q c = true := by unfold tx_q; rcases c2 with rfl | rfl <;> rfl
        rw [if_pos q1, rm_wr_map]
        refine rm_wp21 hm (by omega) (fun h' z4 z5 hm' => ?_)
        rw [show f - 1 + 2 = 2 + (f - 1) by omega]
        refine ih 2 (f - 1) (p + 1) _ h' z4 z5 hm' (ht' _ (fun j => rfl)) hS' (by omega) (by omega) (fun j hj => ?_) (fun j hj1 hj2 => ?_) (fun k j hk => ?_)
        · rw [rm_un (by omega), rm_un (by omega)]; exact h2 j (by omega)
        · by_cases e1 : j = f - 1 + 1
          · rw [e1, rm_uu]
          · rw [rm_un e1, show j = f - 1 by omega, rm_uu]
        · rw [rm_uk hk, rm_uk hk]; exact hF k j hk
      rw [if_neg c2]
      have q1 : ¬ tx_q c = true := by unfold tx_q; simp only [Bool.or_eq_true, beq_iff_eq]; exact c2
      rw [if_neg q1]
      by_cases c3 : c = 33
      · subst c3
        rw [if_pos rfl]
        show ia_Sx pg G kk_M_wrong d 0 0 47 _ _ h (fun rv h' => rv = some (.int (rm_wr p ((tx_w 0 f u).map (· + 1)))) ∧ _)
        rw [rm_wr_map]
        refine rm_wp12 hm (by omega) (fun h' z4 z5 hm' => ?_)
        rw [show f - 1 + 1 = 0 + f by omega]
        refine ih 0 f (p + 1) _ h' z4 z5 hm' (ht' _ (fun j => rfl)) hS' (by omega) (by omega) (fun j hj => ?_) (fun j hj1 hj2 => by omega) (fun k j hk => ?_)
        · by_cases e1 : j = f - 1
          · rw [e1, rm_uu]
          · rw [rm_un e1]; exact h2 j hj
        · rw [rm_uk hk]; exact hF k j hk
      rw [if_neg c3]
      by_cases c4 : c = 38 ∨ c = 124 ∨ c = 62
      · rw [if_pos c4]
        have b1 : tx_b c = true := by unfold tx_b; rcases c4 with rfl | rfl | rfl <;> rfl
        rw [if_pos b1, rm_wr_map]
        refine rm_wp22 hm (by omega) (fun h' z4 z5 hm' => ?_)
        rw [show f - 1 + 2 = 0 + (f + 1) by omega]
        refine ih 0 (f + 1) (p + 1) _ h' z4 z5 hm' (ht' _ (fun j => rfl)) hS' (by omega) (by omega) (fun j hj => ?_) (fun j hj1 hj2 => by omega) (fun k j hk => ?_)
        · by_cases e1 : j = f - 1 + 1
          · rw [e1, rm_uu]
          · rw [rm_un e1]
            by_cases e2 : j = f - 1
            · rw [e2, rm_uu]
            · rw [rm_un e2]; exact h2 j (by omega)
        · rw [rm_uk hk, rm_uk hk]; exact hF k j hk
      rw [if_neg c4]
      have b1 : ¬ tx_b c = true := by unfold tx_b; simp only [Bool.or_eq_true, beq_iff_eq]; exact c4
      rw [if_neg b1, if_neg (by simpa using c1), if_neg (by simpa using c3)]
      rw [show (0 + f - 1) = f - 1 by omega] at bad
      exact bad
/-- wrong(kind): 1 a term, 2 a formula; t is what has been typed -/
theorem rm_wrong {G : ia_G} {h0 : ia_H} {d m f : Nat} {F : Nat → Nat → Int32} {S : Nat → Int32} {kd : Int32} {t : List Int32} (hd : 2 ≤ d) (hm0 : rm h0 F S) (hk : (kd = 1 ∧ m = 1 ∧ f = 0) ∨ (kd = 2 ∧ m = 0 ∧ f = 1)) (ht : ∀ j c, t[j]? = some c → F 0 (10500 + j) = c) (hS : S 0 = nI t.length) (hl : t.length ≤ 60) : ia_Cn pg G kk_M_wrong d 0 0 [.ref 117, .int kd] h0 (fun rv h' => rv = some (.int (rm_wr 0 (tx_w m f t))) ∧ ∃ F', rm_X h0 h' F' S ∧ ∀ k j, k ≠ 14 → F' k j = F k j) := by
  have hm := hm0.X
  refine jd_met (ls := [.ref 117, .int kd, .retAddr 0, .retAddr 0, .retAddr 0, .retAddr 0]) rfl rfl rfl ?_
  refine ia_go 2 rfl ?_
  dsimp only [ia_s1, ia_s2, ia_cl, ia_D, List.getElem?_cons_zero, List.getElem?_cons_succ, List.set_cons_zero, List.set_cons_succ]
  refine ia_go 1 rfl ?_
  refine ia_getf rfl hm.1.1 rfl ?_
  refine ia_go 2 rfl ?_
  refine rm_st (K := 14) (i := 0) rfl hm (by decide) rfl (show 0 < 130 by omega) (by decide) (fun h1 hm => ?_)
  refine ia_go 2 rfl ?_
  dsimp only [ia_s1, ia_s2, ia_cl, ia_D, List.getElem?_cons_zero, List.getElem?_cons_succ, List.set_cons_zero, List.set_cons_succ]
  have hmf : m + f = 1 := by omega
  have := rm_wloop (G := G) (kd := kd) (F0 := F) hd t m f 0 _ h1 (.retAddr 0) (.retAddr 0) hm (fun j c hj => by
    rw [rm_uk (by decide), show 10500 + 0 + j = 10500 + j by omega]; exact ht j c hj) (by rw [hS]; congr 1; omega) (by omega) (by omega) (fun j hj => by
    rw [show j = 0 by omega, rm_uu]; rcases hk with ⟨-, -, h9⟩ | ⟨h9, -, -⟩
    · omega
    · exact h9) (fun j hj1 hj2 => by
    rw [show j = 0 by omega, rm_uu]; rcases hk with ⟨h9, -, -⟩ | ⟨-, h9, -⟩
    · exact h9
    · omega) (fun k j hk9 => rm_uk hk9)
  rw [hmf] at this
  exact this
