/-! THE REFERENCE, 15: refine, the whole. -/
theorem rm_cdloop {G : ia_G} {h0 : ia_H} {d n nc : Nat} {w v z : Int32} {F : Nat → Nat → Int32} {S : Nat → Int32} {C : List (List Int32)} {Post : Option Value → ia_H → Prop} (hd : 1 ≤ d) (hn1 : 1 ≤ n) (hn : n ≤ 16) (hS : S 2 = nI nc) (hc2 : nc ≤ 2) (hC : C.length = nc) (hU : ∀ i U, C[i]? = some U → tm_m F (4 + i) U ∧ U.length ≤ 120) (kk : ∀ h' F', rm_X h0 h' F' S → (∀ i U, C[i]? = some U → tm_n F' n (2 + i) U) → (∀ k j, (k ≠ 0 ∨ j < 500 * n + 242 ∨ 500 * n + 500 ≤ j) → (k ≠ 1 ∨ (j ≠ 4 + 4 * (n - 1) + 2 ∧ j ≠ 4 + 4 * (n - 1) + 3)) → F' k j = F k j) → ia_Sx pg G kk_M_refine d 0 0 250 [.ref 117, .int (nI n), .int w, .int v, .int z, .int (nI nc)] [] h' Post) : ∀ (r i : Nat), i + r = nc → ∀ (h : ia_H) (F1 : Nat → Nat → Int32), rm_X h0 h F1 S → (∀ j U, j < i → C[j]? = some U → tm_n F1 n (2 + j) U) → (∀ k j, (k ≠ 0 ∨ j < 500 * n + 242 ∨ 500 * n + 500 ≤ j) → (k ≠ 1 ∨ (j ≠ 4 + 4 * (n - 1) + 2 ∧ j ≠ 4 + 4 * (n - 1) + 3)) → F1 k j = F k j) → ia_Sx pg G kk_M_refine d 0 0 181 [.ref 117, .int (nI n), .int w, .int v, .int z, .int (nI i)] [] h Post := by
  intro r
  induction r with
  | zero =>
    intro i hi h F1 hm h1 h2
    obtain rfl : i = nc := by omega
    refine ia_go 2 rfl ?_
    refine ia_getf rfl hm.1.1 rfl ?_
    refine ia_go 1 rfl ?_
    rw [hS]
    rw [if_pos (show nI i ≤ nI i from nI_le (by omega) (by omega))]
    exact kk h F1 hm (fun j U hj => h1 j U (by have := (List.getElem?_eq_some_iff.mp hj).1; omega) hj) h2
  | succ r ih =>
    intro i hi h F1 hm h1 h2
    have hic : i < C.length := by omega
    obtain ⟨u1, u2⟩ := hU i _ (List.getElem?_eq_getElem hic)
    refine rm_cdstep hd hm hn1 hn hS hc2 (by omega) (u1.far (by omega) (fun k j hk => h2 k j (by omega) (by omega))) u2 (fun h' F' hm' ht hF' => ?_)
    refine ih (i + 1) (by omega) h' F' hm' (fun j U hj hjU => ?_) (fun k j a b => (hF' k j (by omega) (by omega)).trans (h2 k j a b))
    by_cases hji : j = i
    · subst hji
      rw [List.getElem?_eq_getElem hic] at hjU
      cases hjU
      exact ht
    · exact (h1 j U (by omega) hjU).keep (fun q hq => hF' 0 _ (by omega) (by omega)) (hF' 1 _ (by omega) (by omega))
/-- there is room -/
def rf_ok (F : Nat → Nat → Int32) (rr : Nat) (K C : List (List Int32)) : Prop := (K.length + 2 * ct F 16 ≤ 32 ∧ rr < 48) ∧ (∀ U, U ∈ K → U.length ≤ 120) ∧ ∀ U, U ∈ C → U.length ≤ 120
/-- what the program asks or assigns -/
def rf_g (w : Nat) (f0 f1 e : List Int32) : List Int32 := if w = 2 then e else if w = 5 then f1 else f0
theorem rf_k_len (w : Nat) (p q f0 f1 e : List Int32) : (rf_k w p q f0 f1 e).length ≤ 4 := by
  unfold rf_k
  split
  · simp
  split
  · simp
  split
  · simp
  split
  · simp
  split
  · simp
  split <;> simp
theorem rf_c_len (w : Nat) (v : Int32) (p q f0 f1 e : List Int32) : (rf_c w v p q f0 f1 e).length ≤ 2 := by
  unfold rf_c
  split
  · simp
  split
  · simp
  split
  · simp
  split
  · simp
  split <;> simp
theorem tm_m.short {F : Nat → Nat → Int32} {o : Nat} {U : List Int32} (h : tm_m F o U) : ¬ 120 < F 13 o ↔ U.length ≤ 120 := by
  rw [h.1]
  constructor
  · intro h1
    rcases Nat.lt_or_ge 120 U.length with h2 | h2
    · exact absurd (nI_lt (a := 120) (b := min U.length 121) (by omega) (by omega)) h1
    · exact h2
  · intro h1
    exact nI_nlt (a := 120) (by omega) (by omega)
section RF
variable {G : ia_G} {h0 : ia_H} {d n w o rr : Nat} {v : Int32} {F : Nat → Nat → Int32} {S : Nat → Int32} {P r : Nat → Nat} {p q f0 f1 e : List Int32}
/-- behind hasRoom -/
theorem rm_rfdo {h : ia_H} {F1 : Nat → Nat → Int32} {S1 : Nat → Int32} {nk nc : Nat} {K C : List (List Int32)} (hd : 2 ≤ d) (hm : rm_X h0 h F1 S1) (hT : tm_F F F1) (hn1 : 1 ≤ n) (hn : n ≤ 16) (hF : F 2 n ≠ 0) (hq0 : tm_s F 0 f0) (hq1 : tm_s F 1 f1) (hq3 : tm_s F 3 e) (hS1 : S1 1 = nI rr) (hS2 : S1 2 = nI nc) (hS3 : S1 3 = nI nk) (hw1 : 1 ≤ w) (hw8 : w ≤ 8) (hK : 2 * nk = K.length) (hk2 : nk ≤ 2) (hC : C.length = nc) (hc2 : nc ≤ 2) (hUK : ∀ i U, K[i]? = some U → tm_m F1 i U ∧ U.length ≤ 120) (hUC : ∀ i U, C[i]? = some U → tm_m F1 (4 + i) U ∧ U.length ≤ 120) (hct : nk + ct F 16 ≤ 16) : ia_Sx pg G kk_M_refine d 0 0 60 [.ref 117, .int (nI n), .int (nI w), .int v, .retAddr 0, .retAddr 0] [] h (fun rv h' => ∃ F' N1 N2, rm_X h0 h' F' (rm_s S1 1 (nI (rr + 1))) ∧ rf_D F F' n w v K C (rf_g w f0 f1 e) N1 N2 ∧ rv = some (.int (nI N1))) := by
  have rest : ∀ (s : Nat) (g : List Int32) (h : ia_H), s < 4 → tm_s F s g → g = rf_g w f0 f1 e → rm_X h0 h (rm_u (rm_u F1 4 n (nI w)) 10 n v) (rm_s S1 1 (nI (rr + 1))) → ia_Sx pg G kk_M_refine d 0 0 103 [.ref 117, .int (nI n), .int (nI w), .int v, .retAddr 0, .retAddr 0] [.int (nI s)] h (fun rv h' => ∃ F' N1 N2, rm_X h0 h' F' (rm_s S1 1 (nI (rr + 1))) ∧ rf_D F F' n w v K C (rf_g w f0 f1 e) N1 N2 ∧ rv = some (.int (nI N1))) := by
    intro s g h hs hg hgg hm
    rw [← hgg]
    have hA1 : rfA F (rm_u (rm_u F1 4 n (nI w)) 10 n v) n [] := (rfA.mk hT hn).at hn1 hn (fun k j hc => by
      unfold rc at hc; unfold rm_u
      split
      · rw [if_neg (by omega), if_neg (by omega)]
      · split
        · rw [if_neg (by omega)]
        · rfl)
    have hg1 := hA1.2.2.1 s g hs hg
    refine ia_go 1 rfl ?_
    dsimp only [ia_s1, ia_s2, ia_cl, ia_D, List.getElem?_cons_zero, List.getElem?_cons_succ, List.set_cons_zero, List.set_cons_succ]
    refine ia_go 2 rfl ?_
    dsimp only [ia_s1, ia_s2, ia_cl, ia_D, List.getElem?_cons_zero, List.getElem?_cons_succ, List.set_cons_zero, List.set_cons_succ]
    refine rm_gloop hn hs hg1 (fun h2 F2 hm2 hg2 hF2 => ?_) g.length 0 (by omega) h _ hm (fun j c hj => by omega) (fun _ _ _ => rfl)
    have hA2 : rfA F F2 n [] := hA1.at hn1 hn (fun k j hc => hF2 k j (by unfold rc at hc; omega))
    have hsg : F2 1 s = nI g.length := (hF2 1 s (Or.inl (by decide))).trans hg1.2.1
    have m2 : ∀ k j, (k = 0 ∧ 9300 ≤ j) ∨ k = 13 → F2 k j = F1 k j := fun k j hk => (hF2 k j (Or.inl (by omega))).trans ((rm_uk (by omega)).trans (rm_uk (by omega)))
    refine ia_go 1 rfl ?_
    refine ia_getf rfl hm2.1.1 rfl ?_
    refine ia_go 2 rfl ?_
    refine ia_getf rfl hm2.1.1 rfl ?_
    refine ia_go 1 rfl ?_
    refine rm_ld (K := 1) rfl hm2 (by decide) rfl (show s < 70 by omega) (by decide) ?_
    rw [hsg]
    refine rm_st (K := 12) rfl hm2 (by decide) rfl (show n < 17 by omega) (by decide) (fun h3 hm2 => ?_)
    refine ia_go 1 rfl ?_
    refine ia_getf rfl hm2.1.1 rfl ?_
    refine ia_go 2 rfl ?_
    refine ia_getf rfl hm2.1.1 rfl ?_
    rw [show rm_s S1 1 (nI (rr + 1)) 2 = nI nc from hS2]
    refine rm_st (K := 8) rfl hm2 (by decide) rfl (show n < 17 by omega) (by decide) (fun h3 hm2 => ?_)
    refine ia_go 2 rfl ?_
    dsimp only [ia_s1, ia_s2, ia_cl, ia_D, List.getElem?_cons_zero, List.getElem?_cons_succ, List.set_cons_zero, List.set_cons_succ]
    have hA3 : rfA F (rm_u (rm_u F2 12 n (nI g.length)) 8 n (nI nc)) n [] := hA2.at hn1 hn (fun k j hc => by
      unfold rc at hc; unfold rm_u
      split
      · rw [if_neg (by omega), if_neg (by omega)]
      · split
        · rw [if_neg (by omega)]
        · rfl)
    refine rm_cdloop (F := rm_u (rm_u F2 12 n (nI g.length)) 8 n (nI nc)) (C := C) (by omega) hn1 hn (show rm_s S1 1 (nI (rr + 1)) 2 = nI nc from hS2) hc2 hC (fun i U hU => ⟨(hUC i U hU).1.far (by have := (List.getElem?_eq_some_iff.mp hU).1; omega) (fun k j hk => ((rm_uk (by omega)).trans (rm_uk (by omega))).trans (m2 k j hk)), (hUC i U hU).2⟩) (fun h4 F4 hm4 hC4 hF4 => ?_) nc 0 (by omega) h3 _ hm2 (fun j U hj => by omega) (fun _ _ _ _ => rfl)
    have hA4 : rfA F F4 n [] := hA3.at hn1 hn (fun k j hc => hF4 k j (by unfold rc at hc; omega) (by unfold rc at hc; omega))
    have hnf : nf F4 n w v g C := by
      refine ⟨(hF4 4 n (by omega) (by omega)).trans ?_, (hF4 10 n (by omega) (by omega)).trans ?_, ⟨(hF4 12 n (by omega) (by omega)).trans ?_, hg.2.2, fun j c hj => (hF4 11 _ (by omega) (by omega)).trans ?_⟩, (hF4 8 n (by omega) (by omega)).trans ?_, fun i U hU _ => hC4 i U hU⟩
      · rw [rm_uk (by decide), rm_uk (by decide), hF2 4 n (by omega), rm_uk (by decide), rm_uu]
      · rw [rm_uk (by decide), rm_uk (by decide), hF2 10 n (by omega), rm_uu]
      · rw [rm_uk (by decide), rm_uu]
      · rw [rm_uk (by decide), rm_uk (by decide)]; exact hg2 j c hj
      · rw [rm_uu, hC]
    have hUK4 : ∀ i U, K[i]? = some U → tm_m F4 i U ∧ U.length ≤ 120 := fun i U hU => ⟨(hUK i U hU).1.far (by have := (List.getElem?_eq_some_iff.mp hU).1; omega) (fun k j hk => (hF4 k j (by omega) (by omega)).trans (((rm_uk (by omega)).trans (rm_uk (by omega))).trans (m2 k j hk))), (hUK i U hU).2⟩
    by_cases hw : w = 8
    ·
      refine ia_go 3 rfl ?_
      rw [if_neg (show ¬ ¬ nI w = 8 from fun z => z (by rw [hw]; rfl))]
      refine ia_go 3 rfl ?_
      dsimp only [ia_s1, ia_s2, ia_cl, ia_D, List.getElem?_cons_zero, List.getElem?_cons_succ, List.set_cons_zero, List.set_cons_succ]
      exact rm_rftail (fr := v) hd hm4 hn1 hn hF (show rm_s S1 1 (nI (rr + 1)) 3 = nI nk from hS3) hK hk2 hA4 hnf (by rw [if_pos hw]) hUK4 hct
    ·
      refine ia_go 3 rfl ?_
      rw [if_pos (show ¬ nI w = 8 from fun z => hw ((nI_eq (b := 8) (by omega) (by decide)).mp z))]
      refine ia_go 1 rfl ?_
      refine ia_getf rfl hm4.1.1 rfl ?_
      refine ia_go 1 rfl ?_
      refine rm_ld (K := 3) rfl hm4 (by decide) rfl (show n < 17 by omega) (by decide) ?_
      refine ia_go 1 rfl ?_
      dsimp only [ia_s1, ia_s2, ia_cl, ia_D, List.getElem?_cons_zero, List.getElem?_cons_succ, List.set_cons_zero, List.set_cons_succ]
      exact rm_rftail (fr := F4 3 n) hd hm4 hn1 hn hF (show rm_s S1 1 (nI (rr + 1)) 3 = nI nk from hS3) hK hk2 hA4 hnf (by rw [if_neg hw]; exact hA4.2.1.1 3 (by omega)) hUK4 hct
  refine ia_go 2 rfl ?_
  refine ia_getf rfl hm.1.1 rfl ?_
  refine ia_go 2 rfl ?_
  rw [hS1, nI_1]
  refine rm_put (sk := 1) rfl hm rfl rfl (fun h1 hm => ?_)
  refine ia_go 1 rfl ?_
  refine ia_getf rfl hm.1.1 rfl ?_
  refine ia_go 2 rfl ?_
  refine rm_st (K := 4) rfl hm (by decide) rfl (show n < 17 by omega) (by decide) (fun h1 hm => ?_)
  refine ia_go 1 rfl ?_
  refine ia_getf rfl hm.1.1 rfl ?_
  refine ia_go 2 rfl ?_
  refine rm_st (K := 10) rfl hm (by decide) rfl (show n < 17 by omega) (by decide) (fun h1 hm => ?_)
  by_cases w2 : w = 2
  ·
    refine ia_go 3 rfl ?_
    rw [if_neg (show ¬ ¬ nI w = 2 from fun z => z (by rw [w2]; rfl))]
    refine ia_go 2 rfl ?_
    exact rest 3 e _ (by decide) hq3 (by unfold rf_g; rw [if_pos w2]) hm
  by_cases w5 : w = 5
  ·
    refine ia_go 3 rfl ?_
    rw [if_pos (show ¬ nI w = 2 from fun z => w2 ((nI_eq (b := 2) (by omega) (by decide)).mp z))]
    refine ia_go 3 rfl ?_
    rw [if_neg (show ¬ ¬ nI w = 5 from fun z => z (by rw [w5]; rfl))]
    refine ia_go 2 rfl ?_
    exact rest 1 f1 _ (by decide) hq1 (by unfold rf_g; rw [if_neg w2, if_pos w5]) hm
  refine ia_go 3 rfl ?_
  rw [if_pos (show ¬ nI w = 2 from fun z => w2 ((nI_eq (b := 2) (by omega) (by decide)).mp z))]
  refine ia_go 3 rfl ?_
  rw [if_pos (show ¬ nI w = 5 from fun z => w5 ((nI_eq (b := 5) (by omega) (by decide)).mp z))]
  refine ia_go 1 rfl ?_
  exact rest 0 f0 _ (by decide) hq0 (by unfold rf_g; rw [if_neg w2, if_neg w5]) hm
end RF
