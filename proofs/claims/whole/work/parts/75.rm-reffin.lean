/-! THE REFERENCE, 16: refine. -/
/-- what refine answers and leaves, at the node n by the law w -/
def rf_Q (h0 : ia_H) (F : Nat → Nat → Int32) (S : Nat → Int32) (P : Nat → Nat) (rr n w : Nat) (v : Int32) (p q f0 f1 e : List Int32) (rv : Option Value) (h' : ia_H) : Prop :=
  ((F 4 n ≠ 0 ∨ ¬ sd F P f0 f1 e n w v) ∧ rv = some (.int (-2)) ∧ h' = h0) ∨
  ((F 4 n = 0 ∧ sd F P f0 f1 e n w v) ∧ ((¬ rf_ok F rr (rf_k w p q f0 f1 e) (rf_c w v p q f0 f1 e) ∧ rv = some (.int (-3)) ∧ ∃ F' S', rm_X h0 h' F' S' ∧ tm_F F F' ∧ (∀ k, k ≠ 2 → k ≠ 3 → k ≠ 6 → S' k = S k) ∧ ∃ o, o < 6 ∧ S' 6 = nI o) ∨
    (rf_ok F rr (rf_k w p q f0 f1 e) (rf_c w v p q f0 f1 e) ∧ ∃ F' S' N1 N2, rm_X h0 h' F' S' ∧ rf_D F F' n w v (rf_k w p q f0 f1 e) (rf_c w v p q f0 f1 e) (rf_g w f0 f1 e) N1 N2 ∧ rv = some (.int (nI N1)) ∧ S' 1 = nI (rr + 1) ∧ (∀ k, k ≠ 1 → k ≠ 2 → k ≠ 3 → k ≠ 6 → S' k = S k) ∧ ∃ o, o < 6 ∧ S' 6 = nI o)))
section RF
variable {G : ia_G} {h0 : ia_H} {d n w o rr : Nat} {v : Int32} {F : Nat → Nat → Int32} {S : Nat → Int32} {P r : Nat → Nat} {p q f0 f1 e : List Int32}
theorem rm_rfat {lw : Nat} (hd : 5 ≤ d) (hm : rm h0 F S) (ht : tr F P r) (hS6 : S 6 = nI o) (ho : o < 6) (hS1 : S 1 = nI rr) (hrr : rr ≤ 48) (hn1 : 1 ≤ n) (hn : n ≤ 16) (hF : F 2 n ≠ 0) (ht0 : tm_n F n 0 p) (ht1 : tm_n F n 1 q) (hq0 : tm_s F 0 f0) (hq1 : tm_s F 1 f1) (hq3 : tm_s F 3 e) (hlw : F 4 n = nI lw) (hlw8 : lw ≤ 8) (hw1 : 1 ≤ w) (hw8 : w ≤ 8) : ia_Sx pg G kk_M_refine d 0 0 21 [.ref 117, .int (nI n), .int (nI w), .int v, .retAddr 0, .retAddr 0] [] h0 (rf_Q h0 F S P rr n w v p q f0 f1 e) := by
  have hX := hm.X
  by_cases hl : lw = 0
  case neg =>
    refine ia_go 1 rfl ?_
    refine ia_getf rfl hm.1 rfl ?_
    refine ia_go 1 rfl ?_
    refine rm_ld (K := 4) rfl hX (by decide) rfl (show n < 17 by omega) (by decide) ?_
    rw [hlw]
    refine ia_go 1 rfl ?_
    rw [if_pos (show (0 : Int32) < nI lw from nI_lt (a := 0) (by omega) (by omega))]
    refine ia_go 1 rfl ?_
    exact jd_rv1 rfl rfl rfl trivial (Or.inl ⟨Or.inl (by rw [hlw]; exact fun z => hl ((nI_eq (b := 0) (by omega) (by decide)).mp z)), rfl, rfl⟩)
  subst hl
  refine ia_go 1 rfl ?_
  refine ia_getf rfl hm.1 rfl ?_
  refine ia_go 1 rfl ?_
  refine rm_ld (K := 4) rfl hX (by decide) rfl (show n < 17 by omega) (by decide) ?_
  rw [hlw]
  refine ia_go 1 rfl ?_
  rw [if_neg (show ¬ (0 : Int32) < nI 0 by decide)]
  refine ia_go 4 rfl ?_
  refine jd_cV 117 [.int (nI n), .int (nI w), .int v] [] 0 0 (d' := d - 1) rfl rfl rfl hm.1 rfl rfl (by omega) (by omega) (by omega) (rm_isAsSaid (by omega) hm ht hn1 hn hF hq0 hq1 hq3 hw1 hw8) ?_
  rintro rv h' ⟨rfl, b, rfl, ⟨rfl, hsd⟩ | ⟨rfl, hsd⟩⟩
  case inr =>
    refine ia_go 1 rfl ?_
    rw [if_neg (by decide)]
    refine ia_go 1 rfl ?_
    exact jd_rv1 rfl rfl rfl trivial (Or.inl ⟨Or.inr hsd, rfl, rfl⟩)
  refine ia_go 1 rfl ?_
  rw [if_pos (by decide)]
  refine ia_go 4 rfl ?_
  refine jd_cV 117 [.int (nI n), .int (nI w), .int v] [] 0 0 (d' := d - 1) rfl rfl rfl hm.1 rfl rfl (by omega) (by omega) (by omega) (mk_make (v := v) (by omega) hm hS6 ho hw1 hw8 hn1 hn ht0 ht1 hq0 hq1 hq3) ?_
  rintro rv h1 ⟨rfl, L, nk, o1, ⟨F1, S1, g1, g2, g3, g4, g5, g6, g7, g8⟩, hK, hLK, hLC⟩
  have hkl := rf_k_len w p q f0 f1 e
  have hcl := rf_c_len w v p q f0 f1 e
  have hs1 : S1 1 = nI rr := (g3 1 (by decide) (by decide) (by decide)).trans hS1
  refine ia_go 1 rfl ?_
  refine jd_cV 117 [] [] 0 0 (d' := d - 1) rfl rfl rfl g1.1.1 rfl rfl (by omega) (by omega) (by omega) (rm_hasRoom g1.1 g5 (by omega) g4 hcl hs1 hrr) ?_
  rintro rv h2 ⟨rfl, b, rfl, hb⟩
  have hct : ct F1 16 = ct F 16 := ct_ext (fun j _ _ => g2 2 j (Or.inl (by decide)) (by decide))
  have mK : ∀ i U, (rf_k w p q f0 f1 e)[i]? = some U → tm_m F1 i U := fun i U hU => g8 i U (hLK i U hU) (by have := (List.getElem?_eq_some_iff.mp hU).1; omega)
  have mC : ∀ i U, (rf_c w v p q f0 f1 e)[i]? = some U → tm_m F1 (4 + i) U := fun i U hU => g8 (4 + i) U (hLC i U hU) (by have := (List.getElem?_eq_some_iff.mp hU).1; omega)
  have hok : ((nk + ct F1 16 ≤ 16 ∧ rr < 48) ∧ ∀ j, j < 2 * nk → ¬ 120 < F1 13 j) ∧ (∀ j, j < (rf_c w v p q f0 f1 e).length → ¬ 120 < F1 13 (4 + j)) ↔ rf_ok F rr (rf_k w p q f0 f1 e) (rf_c w v p q f0 f1 e) := by
    unfold rf_ok
    rw [← hK, hct]
    constructor
    · rintro ⟨⟨⟨a1, a2⟩, a3⟩, a4⟩
      refine ⟨⟨by omega, a2⟩, fun U hU => ?_, fun U hU => ?_⟩
      · obtain ⟨i, hi, rfl⟩ := List.mem_iff_getElem.mp hU
        exact (mK i _ (List.getElem?_eq_getElem hi)).short.mp (a3 i (by omega))
      · obtain ⟨i, hi, rfl⟩ := List.mem_iff_getElem.mp hU
        exact (mC i _ (List.getElem?_eq_getElem hi)).short.mp (a4 i hi)
    · rintro ⟨⟨a1, a2⟩, a3, a4⟩
      refine ⟨⟨⟨by omega, a2⟩, fun j hj => ?_⟩, fun j hj => ?_⟩
      · have hj' : j < (rf_k w p q f0 f1 e).length := by omega
        exact (mK j _ (List.getElem?_eq_getElem hj')).short.mpr (a3 _ (List.getElem_mem hj'))
      · exact (mC j _ (List.getElem?_eq_getElem hj)).short.mpr (a4 _ (List.getElem_mem hj))
  have hbb := hb.iff hok
  clear hb
  rcases hbb with ⟨rfl, hb⟩ | ⟨rfl, hb⟩
  case inr =>
    refine ia_go 1 rfl ?_
    rw [if_neg (by decide)]
    refine ia_go 1 rfl ?_
    exact jd_rv1 rfl rfl rfl trivial (Or.inr ⟨⟨hlw, hsd⟩, Or.inl ⟨hb, rfl, F1, S1, g1, g2, g3, o1, g7, g6⟩⟩)
  refine ia_go 1 rfl ?_
  rw [if_pos (by decide)]
  have hb2 := hb
  unfold rf_ok at hb2
  rw [← hK] at hb2
  refine ia_Sx.mono (rm_rfdo (K := rf_k w p q f0 f1 e) (C := rf_c w v p q f0 f1 e) (by omega) g1 g2 hn1 hn hF hq0 hq1 hq3 hs1 g4 g5 hw1 hw8 hK (by omega) rfl hcl (fun i U hU => ⟨mK i U hU, hb2.2.1 U (List.mem_of_getElem? hU)⟩) (fun i U hU => ⟨mC i U hU, hb2.2.2 U (List.mem_of_getElem? hU)⟩) (by omega)) ?_
  rintro rv h3 ⟨F', N1, N2, a1, a2, a3⟩
  refine Or.inr ⟨⟨hlw, hsd⟩, Or.inr ⟨hb, F', _, N1, N2, a1, a2, a3, rfl, fun k k1 k2 k3 k4 => ?_, o1, g7, g6⟩⟩
  unfold rm_s
  rw [if_neg k1]
  exact g3 k k2 k3 k4
/-- refine -/
theorem rm_refine {x y : Int32} {T : Nat → Nat → List Int32} (hd : 5 ≤ d) (hm : rm h0 F S) (ht : tr F P r) (hS6 : S 6 = nI o) (ho : o < 6) (hS1 : S 1 = nI rr) (hrr : rr ≤ 48) (hT : ∀ n, 1 ≤ n → n ≤ 16 → F 2 n ≠ 0 → tm_n F n 0 (T n 0) ∧ tm_n F n 1 (T n 1) ∧ ∃ lw, F 4 n = nI lw ∧ lw ≤ 8) (hq0 : tm_s F 0 f0) (hq1 : tm_s F 1 f1) (hq3 : tm_s F 3 e) : ia_Cn pg G kk_M_refine d 0 0 [.ref 117, .int x, .int y, .int v] h0 (fun rv h' => (¬ (∃ n w, 1 ≤ n ∧ n ≤ 16 ∧ x = nI n ∧ F 2 n ≠ 0 ∧ 1 ≤ w ∧ w ≤ 8 ∧ y = nI w) ∧ rv = some (.int (-1)) ∧ h' = h0) ∨ ∃ n w, (1 ≤ n ∧ n ≤ 16 ∧ x = nI n ∧ F 2 n ≠ 0 ∧ 1 ≤ w ∧ w ≤ 8 ∧ y = nI w) ∧ rf_Q h0 F S P rr n w v (T n 0) (T n 1) f0 f1 e rv h') := by
  refine jd_met (ls := [.ref 117, .int x, .int y, .int v, .retAddr 0, .retAddr 0]) rfl rfl rfl ?_
  refine ia_go 2 rfl ?_
  refine jd_cV 117 [.int x] [] 0 0 (d' := d - 1) rfl rfl rfl hm.1 rfl rfl (by omega) (by omega) (by omega) (rm_isNode hm) ?_
  rintro rv h1 ⟨rfl, ⟨hno, rfl⟩ | ⟨n, hn1, hn, rfl, hF, rfl⟩⟩
  case inl =>
    refine ia_go 1 rfl ?_
    rw [if_pos (by decide)]
    refine ia_go 1 rfl ?_
    exact jd_rv1 rfl rfl rfl trivial (Or.inl ⟨by rintro ⟨n, w, a1, a2, a3, a4, -⟩; exact hno ⟨n, a1, a2, a3, a4⟩, rfl, rfl⟩)
  by_cases h1 : y < 1
  ·
    refine ia_go 1 rfl ?_
    rw [if_neg (by decide)]
    refine ia_go 3 rfl ?_
    rw [if_pos h1]
    refine ia_go 1 rfl ?_
    exact jd_rv1 rfl rfl rfl trivial (Or.inl ⟨by rintro ⟨n, w, -, -, -, -, a1, a2, rfl⟩; exact absurd h1 (nI_nlt (b := 1) a1 (by omega)), rfl, rfl⟩)
  by_cases h2 : y ≤ 8
  case neg =>
    refine ia_go 1 rfl ?_
    rw [if_neg (by decide)]
    refine ia_go 3 rfl ?_
    rw [if_neg h1]
    refine ia_go 3 rfl ?_
    rw [if_neg h2]
    refine ia_go 1 rfl ?_
    exact jd_rv1 rfl rfl rfl trivial (Or.inl ⟨by rintro ⟨n, w, -, -, -, -, a1, a2, rfl⟩; exact h2 (nI_le (b := 8) a2 (by omega)), rfl, rfl⟩)
  have h0n : ¬ y < 0 := fun z => h1 (Int32.lt_of_lt_of_le z (by decide))
  obtain ⟨w, hw8, rfl⟩ := nI_of2 (M := 8) (n := 8) (by decide) h0n h2
  have hw1 : 1 ≤ w := by
    rcases Nat.eq_zero_or_pos w with z | z
    · subst z; exact absurd (by decide) h1
    · exact z
  obtain ⟨t0, t1, lw, hlw, hlw8⟩ := hT n hn1 hn hF
  refine ia_go 1 rfl ?_
  rw [if_neg (by decide)]
  refine ia_go 3 rfl ?_
  rw [if_neg h1]
  refine ia_go 3 rfl ?_
  rw [if_pos h2]
  refine ia_Sx.mono (rm_rfat hd hm ht hS6 ho hS1 hrr hn1 hn hF t0 t1 hq0 hq1 hq3 hlw hlw8 hw1 hw8) ?_
  intro rv h' hq
  exact Or.inr ⟨n, w, ⟨hn1, hn, rfl, hF, hw1, hw8, rfl⟩, hq⟩
end RF
