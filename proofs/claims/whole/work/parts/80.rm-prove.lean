/-! THE REFERENCE, 21: isValid, prove, refuting. -/
theorem rm_zrloop {G : ia_G} {h0 : ia_H} {d : Nat} {z1 z2 z3 z4 : Int32} {F : Nat → Nat → Int32} {S : Nat → Int32} {Post : Option Value → ia_H → Prop} (kk : ∀ h' F', rm_X h0 h' F' S → (∀ j, j < 5 → F' 16 j = 0) → (∀ k j, k ≠ 16 → F' k j = F k j) → ia_Sx pg G kk_M_isValid d 0 0 45 [.ref 117, .int z1, .int z2, .int z3, .int z4, .int (nI 5)] [] h' Post) : ∀ (r i : Nat), i + r = 5 → ∀ (h : ia_H) (F1 : Nat → Nat → Int32), rm_X h0 h F1 S → (∀ j, j < i → F1 16 j = 0) → (∀ k j, k ≠ 16 → F1 k j = F k j) → ia_Sx pg G kk_M_isValid d 0 0 25 [.ref 117, .int z1, .int z2, .int z3, .int z4, .int (nI i)] [] h Post := by
  intro r
  induction r with
  | zero =>
    intro i hi h F1 hm h1 h2
    obtain rfl : i = 5 := by omega
    refine ia_go 3 rfl ?_
    rw [if_pos (by decide)]
    exact kk h F1 hm h1 h2
  | succ r ih =>
    intro i hi h F1 hm h1 h2
    refine ia_go 3 rfl ?_
    rw [if_neg (show ¬ (5 : Int32) ≤ nI i from nI_ge (b := 5) (by omega) (by omega))]
    refine ia_go 1 rfl ?_
    refine ia_getf rfl hm.1.1 rfl ?_
    refine ia_go 2 rfl ?_
    refine rm_st (K := 16) rfl hm (by decide) rfl (show i < 5 by omega) (by decide) (fun h9 hm => ?_)
    refine ia_go 1 rfl ?_
    dsimp only [ia_s1, ia_s2, ia_cl, ia_D, List.getElem?_cons_zero, List.getElem?_cons_succ, List.set_cons_zero, List.set_cons_succ]
    refine ia_go 1 rfl ?_
    rw [show nI i + Int32.ofInt 1 = nI (i + 1) from nI_1 i]
    refine ih (i + 1) (by omega) _ _ hm (fun j hj => ?_) (fun k j hk => (rm_uk hk).trans (h2 k j hk))
    by_cases hji : j = i
    · rw [hji, rm_uu]
    · rw [rm_un hji]; exact h1 j (by omega)
theorem rm_isValid {G : ia_G} {h0 : ia_H} {d n k : Nat} {x : Bool} {F : Nat → Nat → Int32} {S : Nat → Int32} {t : List Int32} (hd : 4 ≤ d) (hm : rm h0 F S) (hn1 : 1 ≤ n) (hn : n ≤ 16) (hk : k < 2) (ht : tm_n F n (2 + k) t) (hty : tx_f t [] = some [x]) : ia_Cn pg G kk_M_isValid d 0 0 [.ref 117, .int (nI n), .int (nI k)] h0 (iv_Q h0 F S t) := by
  have hX := hm.X
  obtain ⟨t1, t2, t3⟩ := ht
  have h2 : (2 : Int32) + nI k = nI (2 + k) := nI_add 2 k
  refine jd_met (ls := [.ref 117, .int (nI n), .int (nI k), .retAddr 0, .retAddr 0, .retAddr 0]) rfl rfl rfl ?_
  refine ia_go 4 rfl ?_
  rw [h2]
  refine jd_cS [.int (nI n), .int (nI (2 + k))] [] 0 0 (d' := d - 1) rfl rfl rfl rfl rfl (by omega) (by omega) (by omega) (rm_placeOf) ?_
  rintro rv h' ⟨rfl, rfl⟩
  refine ia_go 1 rfl ?_
  dsimp only [ia_s1, ia_s2, ia_cl, ia_D, List.getElem?_cons_zero, List.getElem?_cons_succ, List.set_cons_zero, List.set_cons_succ]
  refine ia_go 1 rfl ?_
  refine ia_getf rfl hm.1 rfl ?_
  refine ia_go 4 rfl ?_
  rw [h2]
  refine jd_cS [.int (nI n), .int (nI (2 + k))] [.ref 119] 0 0 (d' := d - 1) rfl rfl rfl rfl rfl (by omega) (by omega) (by omega) (rm_lengthAt hn1) ?_
  rintro rv h' ⟨rfl, rfl⟩
  refine rm_ld (K := 1) rfl hX (by decide) rfl (show 4 + 4 * (n - 1) + (2 + k) < 70 by omega) (by decide) ?_
  rw [t2]
  refine ia_go 1 rfl ?_
  dsimp only [ia_s1, ia_s2, ia_cl, ia_D, List.getElem?_cons_zero, List.getElem?_cons_succ, List.set_cons_zero, List.set_cons_succ]
  refine ia_go 2 rfl ?_
  dsimp only [ia_s1, ia_s2, ia_cl, ia_D, List.getElem?_cons_zero, List.getElem?_cons_succ, List.set_cons_zero, List.set_cons_succ]
  refine rm_zrloop (F := F) (fun h1 F1 hm1 hz hF1 => ?_) 5 0 (by omega) _ F hX (fun j hj => by omega) (fun _ _ _ => rfl)
  refine ia_go 2 rfl ?_
  dsimp only [ia_s1, ia_s2, ia_cl, ia_D, List.getElem?_cons_zero, List.getElem?_cons_succ, List.set_cons_zero, List.set_cons_succ]
  exact rm_ivloop (by omega) t3 (by omega) t1 hty 32768 (fun _ => 0) (Nat.le_add_left _ _) (fun _ _ => Nat.zero_le _) (fun _ _ _ => rfl) (fun E _ hlt => by simp [num] at hlt) h1 F1 S hm1 (fun k j _ k2 => hF1 k j k2) (fun _ _ => rfl) hz
/-- what prove leaves -/
def pv_Q (h0 : ia_H) (F : Nat → Nat → Int32) (S : Nat → Int32) (n : Nat) (C : List (List Int32)) (rv : Option Value) (h' : ia_H) : Prop := ∃ F' S', rm_X h0 h' F' S' ∧ (∀ k, k ≠ 7 → S' k = S k) ∧ ((rv = some (.int 1) ∧ (∀ U, U ∈ C → ∀ E, d7 E → vl E U ≠ 0) ∧ F' 9 n = 1 ∧ ∀ k j, k ≠ 15 → k ≠ 16 → (k ≠ 9 ∨ j ≠ n) → F' k j = F k j) ∨ (rv = some (.int 0) ∧ ∃ (i : Nat) (U : List Int32) (D : Nat → Nat), C[i]? = some U ∧ (∀ j V, j < i → C[j]? = some V → ∀ E, d7 E → vl E V ≠ 0) ∧ rfd U D ∧ (∀ j, j < 5 → F' 17 j = nI (D j)) ∧ ∀ k j, k ≠ 15 → k ≠ 16 → k ≠ 17 → F' k j = F k j))
theorem rm_cyloop {G : ia_G} {h0 : ia_H} {d : Nat} {z1 z2 : Int32} {F : Nat → Nat → Int32} {S : Nat → Int32} {Post : Option Value → ia_H → Prop} (kk : ∀ h' F', rm_X h0 h' F' S → (∀ j, j < 5 → F' 17 j = F 16 j) → (∀ k j, k ≠ 17 → F' k j = F k j) → ia_Sx pg G kk_M_prove d 0 0 68 [.ref 117, .int z1, .int z2, .int (nI 5)] [] h' Post) : ∀ (r i : Nat), i + r = 5 → ∀ (h : ia_H) (F1 : Nat → Nat → Int32), rm_X h0 h F1 S → (∀ j, j < i → F1 17 j = F 16 j) → (∀ k j, k ≠ 17 → F1 k j = F k j) → ia_Sx pg G kk_M_prove d 0 0 45 [.ref 117, .int z1, .int z2, .int (nI i)] [] h Post := by
  intro r
  induction r with
  | zero =>
    intro i hi h F1 hm h1 h2
    obtain rfl : i = 5 := by omega
    refine ia_go 3 rfl ?_
    rw [if_pos (by decide)]
    exact kk h F1 hm h1 h2
  | succ r ih =>
    intro i hi h F1 hm h1 h2
    refine ia_go 3 rfl ?_
    rw [if_neg (show ¬ (5 : Int32) ≤ nI i from nI_ge (b := 5) (by omega) (by omega))]
    refine ia_go 1 rfl ?_
    refine ia_getf rfl hm.1.1 rfl ?_
    refine ia_go 2 rfl ?_
    refine ia_getf rfl hm.1.1 rfl ?_
    refine ia_go 1 rfl ?_
    refine rm_ld (K := 16) rfl hm (by decide) rfl (show i < 5 by omega) (by decide) ?_
    refine rm_st (K := 17) rfl hm (by decide) rfl (show i < 5 by omega) (by decide) (fun h9 hm => ?_)
    refine ia_go 1 rfl ?_
    dsimp only [ia_s1, ia_s2, ia_cl, ia_D, List.getElem?_cons_zero, List.getElem?_cons_succ, List.set_cons_zero, List.set_cons_succ]
    refine ia_go 1 rfl ?_
    rw [show nI i + Int32.ofInt 1 = nI (i + 1) from nI_1 i]
    refine ih (i + 1) (by omega) _ _ hm (fun j hj => ?_) (fun k j hk => (rm_uk hk).trans (h2 k j hk))
    by_cases hji : j = i
    · rw [hji, rm_uu]; exact h2 16 i (by decide)
    · rw [rm_un hji]; exact h1 j (by omega)
theorem rm_pvloop {G : ia_G} {h0 : ia_H} {d n : Nat} {F : Nat → Nat → Int32} {S : Nat → Int32} {C : List (List Int32)} (hd : 5 ≤ d) (hn1 : 1 ≤ n) (hn : n ≤ 16) (hC : F 8 n = nI C.length) (hC2 : C.length ≤ 2) (hU : ∀ i U, C[i]? = some U → tm_n F n (2 + i) U ∧ tx_F U) : ∀ (r i : Nat), i + r = C.length → ∀ (h : ia_H) (F1 : Nat → Nat → Int32) (S1 : Nat → Int32), rm_X h0 h F1 S1 → (∀ k j, k ≠ 15 → k ≠ 16 → F1 k j = F k j) → (∀ k, k ≠ 7 → S1 k = S k) → (∀ j V, j < i → C[j]? = some V → ∀ E, d7 E → vl E V ≠ 0) → ia_Sx pg G kk_M_prove d 0 0 24 [.ref 117, .int (nI n), .int (nI i), .retAddr 0] [] h (pv_Q h0 F S n C) := by
  intro r
  induction r with
  | zero =>
    intro i hi h F1 S1 hm hF hS hall
    have hc : F1 8 n = nI C.length := (hF 8 n (by decide) (by decide)).trans hC
    refine ia_go 2 rfl ?_
    refine ia_getf rfl hm.1.1 rfl ?_
    refine ia_go 1 rfl ?_
    refine rm_ld (K := 8) rfl hm (by decide) rfl (show n < 17 by omega) (by decide) ?_
    rw [hc]
    refine ia_go 1 rfl ?_
    rw [if_pos (show nI C.length ≤ nI i from nI_le (by omega) (by omega))]
    refine ia_go 1 rfl ?_
    refine ia_getf rfl hm.1.1 rfl ?_
    refine ia_go 2 rfl ?_
    refine rm_zst (K := 9) rfl hm (by decide) rfl (show n < 17 by omega) (by decide) (Or.inr rfl) (fun h9 hm => ?_)
    refine ia_go 1 rfl ?_
    exact jd_rv1 rfl rfl rfl trivial ⟨_, S1, hm, hS, Or.inl ⟨rfl, fun U hU E hE => by
      obtain ⟨j, hj, rfl⟩ := List.mem_iff_getElem.mp hU
      exact hall j _ (by omega) (List.getElem?_eq_getElem hj) E hE, rm_uu, fun k j k1 k2 k3 => by
      by_cases hk : k = 9
      · subst hk; rw [rm_un (by omega)]; exact hF 9 j k1 k2
      · rw [rm_uk hk]; exact hF k j k1 k2⟩⟩
  | succ r ih =>
    intro i hi h F1 S1 hm hF hS hall
    have hc : F1 8 n = nI C.length := (hF 8 n (by decide) (by decide)).trans hC
    have hic : i < C.length := by omega
    obtain ⟨u1, u2⟩ := hU i _ (List.getElem?_eq_getElem hic)
    refine ia_go 2 rfl ?_
    refine ia_getf rfl hm.1.1 rfl ?_
    refine ia_go 1 rfl ?_
    refine rm_ld (K := 8) rfl hm (by decide) rfl (show n < 17 by omega) (by decide) ?_
    rw [hc]
    refine ia_go 1 rfl ?_
    rw [if_neg (show ¬ nI C.length ≤ nI i from nI_ge (by omega) (by omega))]
    refine ia_go 3 rfl ?_
    refine jd_cV 117 [.int (nI n), .int (nI i)] [] 0 0 (d' := d - 1) rfl rfl rfl hm.1.1 rfl rfl (by omega) (by omega) (by omega) (rm_isValid (by omega) hm.1 hn1 hn (by omega) (u1.keep (fun j hj => hF 0 _ (by decide) (by decide)) (hF 1 _ (by decide) (by decide))) (u2 [])) ?_
    rintro rv h2 ⟨F2, S2, hm2, hF2, hS2, ⟨rfl, D, hD1, hD2⟩ | ⟨rfl, hv⟩⟩
    ·
      refine ia_go 1 rfl ?_
      rw [if_neg (by decide)]
      refine ia_go 2 rfl ?_
      dsimp only [ia_s1, ia_s2, ia_cl, ia_D, List.getElem?_cons_zero, List.getElem?_cons_succ, List.set_cons_zero, List.set_cons_succ]
      refine rm_cyloop (F := F2) (fun h3 F3 hm3 h17 hF3 => ?_) 5 0 (by omega) h2 F2 (hm.tr hm2) (fun j hj => by omega) (fun _ _ _ => rfl)
      refine ia_go 1 rfl ?_
      exact jd_rv1 rfl rfl rfl trivial ⟨F3, S2, hm3, fun k hk => (hS2 k hk).trans (hS k hk), Or.inr ⟨rfl, i, _, D, List.getElem?_eq_getElem hic, hall, hD2, fun j hj => (h17 j hj).trans (hD1 j hj), fun k j k1 k2 k3 => (hF3 k j k3).trans ((hF2 k j k1 k2).trans (hF k j k1 k2))⟩⟩
    ·
      refine ia_go 1 rfl ?_
      rw [if_pos (by decide)]
      refine ia_go 1 rfl ?_
      dsimp only [ia_s1, ia_s2, ia_cl, ia_D, List.getElem?_cons_zero, List.getElem?_cons_succ, List.set_cons_zero, List.set_cons_succ]
      refine ia_go 1 rfl ?_
      rw [show nI i + Int32.ofInt 1 = nI (i + 1) from nI_1 i]
      refine ih (i + 1) (by omega) h2 F2 S2 (hm.tr hm2) (fun k j k1 k2 => (hF2 k j k1 k2).trans (hF k j k1 k2)) (fun k hk => (hS2 k hk).trans (hS k hk)) (fun j V hj hjV => ?_)
      by_cases hji : j = i
      · subst hji
        rw [List.getElem?_eq_getElem hic] at hjV
        cases hjV
        exact hv
      · exact hall j V (by omega) hjV
/-- prove -/
theorem rm_prove {G : ia_G} {h0 : ia_H} {d : Nat} {x : Int32} {F : Nat → Nat → Int32} {S : Nat → Int32} {C : Nat → List (List Int32)} (hd : 6 ≤ d) (hm : rm h0 F S) (hC : ∀ n, 1 ≤ n → n ≤ 16 → F 2 n ≠ 0 → F 4 n ≠ 0 → F 8 n = nI (C n).length ∧ (C n).length ≤ 2 ∧ ∀ i U, (C n)[i]? = some U → tm_n F n (2 + i) U ∧ tx_F U) : ia_Cn pg G kk_M_prove d 0 0 [.ref 117, .int x] h0 (fun rv h' => ((¬ ∃ n, 1 ≤ n ∧ n ≤ 16 ∧ x = nI n ∧ F 2 n ≠ 0) ∧ rv = some (.int (-1)) ∧ h' = h0) ∨ ∃ n, (1 ≤ n ∧ n ≤ 16 ∧ x = nI n ∧ F 2 n ≠ 0) ∧ ((F 4 n = 0 ∧ rv = some (.int (-2)) ∧ h' = h0) ∨ (F 4 n ≠ 0 ∧ pv_Q h0 F S n (C n) rv h'))) := by
  have hX := hm.X
  refine jd_met (ls := [.ref 117, .int x, .retAddr 0, .retAddr 0]) rfl rfl rfl ?_
  refine ia_go 2 rfl ?_
  refine jd_cV 117 [.int x] [] 0 0 (d' := d - 1) rfl rfl rfl hm.1 rfl rfl (by omega) (by omega) (by omega) (rm_isNode hm) ?_
  rintro rv h1 ⟨rfl, ⟨hno, rfl⟩ | ⟨n, hn1, hn, rfl, hF, rfl⟩⟩
  case inl =>
    refine ia_go 1 rfl ?_
    rw [if_neg (fun z => z rfl)]
    refine ia_go 1 rfl ?_
    exact jd_rv1 rfl rfl rfl trivial (Or.inl ⟨hno, rfl, rfl⟩)
  by_cases h4 : F 4 n = 0
  ·
    refine ia_go 1 rfl ?_
    rw [if_pos (by decide)]
    refine ia_go 1 rfl ?_
    refine ia_getf rfl hm.1 rfl ?_
    refine ia_go 1 rfl ?_
    refine rm_ld (K := 4) rfl hX (by decide) rfl (show n < 17 by omega) (by decide) ?_
    refine ia_go 1 rfl ?_
    rw [if_neg (fun z => z h4)]
    refine ia_go 1 rfl ?_
    exact jd_rv1 rfl rfl rfl trivial (Or.inr ⟨n, ⟨hn1, hn, rfl, hF⟩, Or.inl ⟨h4, rfl, rfl⟩⟩)
  ·
    refine ia_go 1 rfl ?_
    rw [if_pos (by decide)]
    refine ia_go 1 rfl ?_
    refine ia_getf rfl hm.1 rfl ?_
    refine ia_go 1 rfl ?_
    refine rm_ld (K := 4) rfl hX (by decide) rfl (show n < 17 by omega) (by decide) ?_
    refine ia_go 1 rfl ?_
    rw [if_pos h4]
    refine ia_go 2 rfl ?_
    dsimp only [ia_s1, ia_s2, ia_cl, ia_D, List.getElem?_cons_zero, List.getElem?_cons_succ, List.set_cons_zero, List.set_cons_succ]
    obtain ⟨c1, c2, c3⟩ := hC n hn1 hn hF h4
    refine ia_Sx.mono (rm_pvloop (C := C n) (by omega) hn1 hn c1 c2 c3 (C n).length 0 (by omega) _ F S hX (fun _ _ _ _ => rfl) (fun _ _ => rfl) (fun j V hj => by omega)) ?_
    intro rv h' hq
    exact Or.inr ⟨n, ⟨hn1, hn, rfl, hF⟩, Or.inr ⟨h4, hq⟩⟩
theorem rm_refuting {G : ia_G} {h0 : ia_H} {d : Nat} {x : Int32} {F : Nat → Nat → Int32} {S : Nat → Int32} (hm : rm h0 F S) : ia_Cn pg G kk_M_refuting d 0 0 [.ref 117, .int x] h0 (fun rv h' => h' = h0 ∧ (((¬ ∃ j, j < 5 ∧ x = nI j) ∧ rv = some (.int (-1))) ∨ ∃ j, j < 5 ∧ x = nI j ∧ rv = some (.int (F 17 j)))) := by
  have hX := hm.X
  by_cases h1 : x < 0
  ·
    refine jd_met (ls := [.ref 117, .int x]) rfl rfl rfl ?_
    refine ia_go 2 rfl ?_
    rw [if_pos h1]
    refine ia_go 1 rfl ?_
    exact jd_rv1 rfl rfl rfl trivial ⟨rfl, Or.inl ⟨by rintro ⟨j, hj, rfl⟩; exact absurd h1 (nI_pos (by omega)), rfl⟩⟩
  by_cases h2 : 5 ≤ x
  ·
    refine jd_met (ls := [.ref 117, .int x]) rfl rfl rfl ?_
    refine ia_go 2 rfl ?_
    rw [if_neg h1]
    refine ia_go 3 rfl ?_
    rw [if_pos h2]
    refine ia_go 1 rfl ?_
    exact jd_rv1 rfl rfl rfl trivial ⟨rfl, Or.inl ⟨by rintro ⟨j, hj, rfl⟩; exact absurd h2 (nI_ge (b := 5) hj (by omega)), rfl⟩⟩
  obtain ⟨j, hj, rfl⟩ := nI_of2 (M := 5) (n := 5) (by decide) h1 (Int32.le_of_lt (Int32.not_le.mp h2))
  have hj5 : j < 5 := by
    rcases Nat.lt_or_ge j 5 with e | e
    · exact e
    · exact absurd (nI_le (a := 5) e (by omega)) h2
  refine jd_met (ls := [.ref 117, .int (nI j)]) rfl rfl rfl ?_
  refine ia_go 2 rfl ?_
  rw [if_neg h1]
  refine ia_go 3 rfl ?_
  rw [if_neg h2]
  refine ia_go 1 rfl ?_
  refine ia_getf rfl hm.1 rfl ?_
  refine ia_go 1 rfl ?_
  refine rm_ld (K := 17) rfl hX (by decide) rfl (show j < 5 from hj5) (by decide) ?_
  refine ia_go 1 rfl ?_
  exact jd_rv1 rfl rfl rfl trivial ⟨rfl, Or.inr ⟨j, hj5, rfl, rfl⟩⟩
