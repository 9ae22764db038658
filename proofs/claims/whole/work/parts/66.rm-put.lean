/-! THE REFERENCE, 7: texts are put together. -/
theorem rm_mul125 (o : Nat) : (9300 : Int32) + 125 * nI o = nI (9300 + 125 * o) := by unfold nI; rw [Int32.ofNat_add, Int32.ofNat_mul]; rfl
theorem rm_put1 {G : ia_G} {h0 : ia_H} {d o : Nat} {c : Int32} {F : Nat → Nat → Int32} {S : Nat → Int32} {U : List Int32} (hm0 : rm h0 F S) (hS : S 6 = nI o) (ho : o < 6) (hU : tm_m F o U) : ia_Cn pg G kk_M_put d 0 0 [.ref 117, .int c] h0 (fun rv h' => rv = none ∧ ∃ F', rm_X h0 h' F' S ∧ tm_m F' o (U ++ [c]) ∧ tm_fr F F' o) := by
  have hm := hm0.X
  obtain ⟨u1, u2⟩ := hU
  by_cases hl : U.length ≤ 120
  · rw [Nat.min_eq_left (by omega)] at u1
    refine jd_met (ls := [.ref 117, .int c]) rfl rfl rfl ?_
    refine ia_go 1 rfl ?_
    refine ia_getf rfl hm.1.1 rfl ?_
    refine ia_go 1 rfl ?_
    refine ia_getf rfl hm.1.1 rfl ?_
    rw [hS]
    refine rm_ld (K := 13) rfl hm (by decide) rfl (show o < 6 from ho) (by decide) ?_
    rw [u1]
    refine ia_go 2 rfl ?_
    rw [if_neg (show ¬ (120 : Int32) < nI U.length from nI_nlt (a := 120) hl (by omega))]
    refine ia_go 1 rfl ?_
    refine ia_getf rfl hm.1.1 rfl ?_
    refine ia_go 3 rfl ?_
    refine ia_getf rfl hm.1.1 rfl ?_
    refine ia_go 3 rfl ?_
    refine ia_getf rfl hm.1.1 rfl ?_
    refine ia_go 1 rfl ?_
    refine ia_getf rfl hm.1.1 rfl ?_
    rw [hS, rm_mul125]
    refine rm_ld (K := 13) rfl hm (by decide) rfl (show o < 6 from ho) (by decide) ?_
    refine ia_go 2 rfl ?_
    rw [u1, nI_add]
    refine rm_st (K := 0) rfl hm (by decide) rfl (show 9300 + 125 * o + U.length < 10600 by omega) (by decide) (fun h9 hm => ?_)
    refine ia_go 1 rfl ?_
    refine ia_getf rfl hm.1.1 rfl ?_
    refine ia_go 1 rfl ?_
    refine ia_getf rfl hm.1.1 rfl ?_
    refine ia_go 1 rfl ?_
    refine ia_getf rfl hm.1.1 rfl ?_
    refine ia_go 1 rfl ?_
    refine ia_getf rfl hm.1.1 rfl ?_
    rw [hS]
    refine rm_ld (K := 13) rfl hm (by decide) rfl (show o < 6 from ho) (by decide) ?_
    refine ia_go 2 rfl ?_
    rw [rm_uk (by decide), u1]
    rw [if_neg (show ¬ (120 : Int32) < nI U.length from nI_nlt (a := 120) hl (by omega))]
    refine ia_go 1 rfl ?_
    refine ia_getf rfl hm.1.1 rfl ?_
    refine ia_go 1 rfl ?_
    refine ia_getf rfl hm.1.1 rfl ?_
    rw [hS]
    refine rm_ld (K := 13) rfl hm (by decide) rfl (show o < 6 from ho) (by decide) ?_
    refine ia_go 3 rfl ?_
    rw [rm_uk (by decide), u1, nI_1]
    refine rm_st (K := 13) rfl hm (by decide) rfl (show o < 6 from ho) (by decide) (fun h9 hm => ?_)
    refine jd_rv0 rfl rfl rfl ⟨rfl, _, hm, ⟨?_, fun j x hj hx => ?_⟩, fun k j h1 h2 => ?_⟩
    · rw [rm_uu, List.length_append, Nat.min_eq_left (by simp; omega)]; rfl
    · rw [rm_uk (by decide)]
      by_cases hju : j < U.length
      · rw [List.getElem?_append_left hju] at hx
        rw [rm_un (by omega)]; exact u2 j x hj hx
      · rw [List.getElem?_append_right (by omega)] at hx
        have hj0 : j = U.length := by have := (List.getElem?_eq_some_iff.mp hx).1; simp at this; omega
        subst hj0
        rw [Nat.sub_self] at hx
        cases hx
        exact rm_uu
    · by_cases hk : k = 13
      · subst hk
        rw [rm_un (by omega), rm_uk (by decide)]
      · rw [rm_uk hk]
        by_cases hk0 : k = 0
        · subst hk0; rw [rm_un (by omega)]
        · rw [rm_uk hk0]
  · rw [Nat.min_eq_right (by omega)] at u1
    refine jd_met (ls := [.ref 117, .int c]) rfl rfl rfl ?_
    refine ia_go 1 rfl ?_
    refine ia_getf rfl hm.1.1 rfl ?_
    refine ia_go 1 rfl ?_
    refine ia_getf rfl hm.1.1 rfl ?_
    rw [hS]
    refine rm_ld (K := 13) rfl hm (by decide) rfl (show o < 6 from ho) (by decide) ?_
    rw [u1]
    refine ia_go 2 rfl ?_
    rw [if_pos (by decide)]
    refine ia_go 1 rfl ?_
    refine ia_getf rfl hm.1.1 rfl ?_
    refine ia_go 1 rfl ?_
    refine ia_getf rfl hm.1.1 rfl ?_
    refine ia_go 1 rfl ?_
    refine ia_getf rfl hm.1.1 rfl ?_
    refine ia_go 1 rfl ?_
    refine ia_getf rfl hm.1.1 rfl ?_
    rw [hS]
    refine rm_ld (K := 13) rfl hm (by decide) rfl (show o < 6 from ho) (by decide) ?_
    refine ia_go 2 rfl ?_
    rw [u1]
    rw [if_pos (by decide)]
    refine ia_go 1 rfl ?_
    refine ia_getf rfl hm.1.1 rfl ?_
    refine ia_go 1 rfl ?_
    refine ia_getf rfl hm.1.1 rfl ?_
    rw [hS]
    refine rm_ld (K := 13) rfl hm (by decide) rfl (show o < 6 from ho) (by decide) ?_
    rw [u1]
    refine rm_st (K := 13) rfl hm (by decide) rfl (show o < 6 from ho) (by decide) (fun h9 hm => ?_)
    refine jd_rv0 rfl rfl rfl ⟨rfl, _, hm, ⟨?_, fun j x hj hx => ?_⟩, fun k j h1 h2 => ?_⟩
    · rw [rm_uu, List.length_append, Nat.min_eq_right (by simp; omega)]
    · rw [rm_uk (by decide)]
      rw [List.getElem?_append_left (by omega)] at hx
      exact u2 j x hj hx
    · by_cases hk : k = 13
      · subst hk; rw [rm_un (by omega)]
      · rw [rm_uk hk]
theorem rm_ptloop {G : ia_G} {h0 : ia_H} {d o p n : Nat} {F : Nat → Nat → Int32} {S : Nat → Int32} {U t : List Int32} (hd : 1 ≤ d) (hS : S 6 = nI o) (ho : o < 6) (hl : t.length = n) (hp : p + n ≤ 9300) (ht : tm_t F p t) : ∀ (r i : Nat), i + r = n → ∀ (h : ia_H) (F1 : Nat → Nat → Int32), rm_X h0 h F1 S → tm_m F1 o (U ++ t.take i) → tm_fr F F1 o → ia_Sx pg G kk_M_putText d 0 0 2 [.ref 117, .int (nI p), .int (nI n), .int (nI i)] [] h (fun rv h' => rv = none ∧ ∃ F', rm_X h0 h' F' S ∧ tm_m F' o (U ++ t) ∧ tm_fr F F' o) := by
  intro r
  induction r with
  | zero =>
    intro i hi h F1 hm h1 h2
    rw [List.take_of_length_le (by omega)] at h1
    refine ia_go 3 rfl ?_
    rw [if_pos (show nI n ≤ nI i from nI_le (by omega) (by omega))]
    exact jd_rv0 rfl rfl rfl ⟨rfl, F1, hm, h1, h2⟩
  | succ r ih =>
    intro i hi h F1 hm h1 h2
    have hit : i < t.length := by omega
    have hc : F1 0 (p + i) = t[i] := (h2 0 (p + i) (by omega) (Or.inl (by decide))).trans (ht i _ (List.getElem?_eq_getElem hit))
    refine ia_go 3 rfl ?_
    rw [if_neg (show ¬ nI n ≤ nI i from nI_ge (by omega) (by omega))]
    refine ia_go 2 rfl ?_
    refine ia_getf rfl hm.1.1 rfl ?_
    refine ia_go 3 rfl ?_
    rw [nI_add]
    refine rm_ld (K := 0) rfl hm (by decide) rfl (show p + i < 10600 by omega) (by decide) ?_
    rw [hc]
    refine jd_cV 117 [.int t[i]] [] 0 0 (d' := d - 1) rfl rfl rfl hm.1.1 rfl rfl (by omega) (by omega) (by omega) (rm_put1 hm.1 hS ho h1) ?_
    rintro rv h9 ⟨rfl, F2, hm2, g1, g2⟩
    refine ia_go 1 rfl ?_
    dsimp only [ia_s1, ia_s2, ia_cl, ia_D, List.getElem?_cons_zero, List.getElem?_cons_succ, List.set_cons_zero, List.set_cons_succ]
    refine ia_go 1 rfl ?_
    rw [show nI i + Int32.ofInt 1 = nI (i + 1) from nI_1 i]
    refine ih (i + 1) (by omega) _ F2 (hm.tr hm2) ?_ (h2.tr g2)
    rw [List.take_succ_eq_append_getElem hit, ← List.append_assoc]
    exact g1
theorem rm_putText {G : ia_G} {h0 : ia_H} {d o p : Nat} {F : Nat → Nat → Int32} {S : Nat → Int32} {U t : List Int32} (hd : 1 ≤ d) (hm0 : rm h0 F S) (hS : S 6 = nI o) (ho : o < 6) (hU : tm_m F o U) (hp : p + t.length ≤ 9300) (ht : tm_t F p t) : ia_Cn pg G kk_M_putText d 0 0 [.ref 117, .int (nI p), .int (nI t.length)] h0 (fun rv h' => rv = none ∧ ∃ F', rm_X h0 h' F' S ∧ tm_m F' o (U ++ t) ∧ tm_fr F F' o) := by
  refine jd_met (ls := [.ref 117, .int (nI p), .int (nI t.length), .retAddr 0]) rfl rfl rfl ?_
  refine ia_go 2 rfl ?_
  dsimp only [ia_s1, ia_s2, ia_cl, ia_D, List.getElem?_cons_zero, List.getElem?_cons_succ, List.set_cons_zero, List.set_cons_succ]
  exact rm_ptloop hd hS ho rfl hp ht t.length 0 (by omega) h0 F hm0.X (by simpa using hU) tm_fr.rf
theorem rm_putSlot {G : ia_G} {h0 : ia_H} {d o i : Nat} {F : Nat → Nat → Int32} {S : Nat → Int32} {U t : List Int32} (hd : 2 ≤ d) (hm0 : rm h0 F S) (hS : S 6 = nI o) (ho : o < 6) (hU : tm_m F o U) (hi : i < 4) (ht : tm_s F i t) : ia_Cn pg G kk_M_putSlot d 0 0 [.ref 117, .int (nI i)] h0 (fun rv h' => rv = none ∧ ∃ F', rm_X h0 h' F' S ∧ tm_m F' o (U ++ t) ∧ tm_fr F F' o) := by
  have hm := hm0.X
  obtain ⟨g1, g2, g3⟩ := ht
  refine jd_met (ls := [.ref 117, .int (nI i)]) rfl rfl rfl ?_
  refine ia_go 7 rfl ?_
  refine ia_getf rfl hm.1.1 rfl ?_
  refine ia_go 1 rfl ?_
  rw [rm_mul60]
  refine rm_ld (K := 1) rfl hm (by decide) rfl (show i < 70 by omega) (by decide) ?_
  rw [g2]
  refine jd_cV 117 [.int (nI (9000 + 60 * i)), .int (nI t.length)] [] 0 0 (d' := d - 1) rfl rfl rfl hm.1.1 rfl rfl (by omega) (by omega) (by omega) (rm_putText (by omega) hm0 hS ho hU (by omega) g1) ?_
  rintro rv h9 ⟨rfl, hR⟩
  exact jd_rv0 rfl rfl rfl ⟨rfl, hR⟩
theorem rm_putNode {G : ia_G} {h0 : ia_H} {d o n w : Nat} {F : Nat → Nat → Int32} {S : Nat → Int32} {U t : List Int32} (hd : 2 ≤ d) (hm0 : rm h0 F S) (hS : S 6 = nI o) (ho : o < 6) (hU : tm_m F o U) (hn1 : 1 ≤ n) (hn : n ≤ 16) (hw : w ≤ 3) (ht : tm_n F n w t) : ia_Cn pg G kk_M_putNode d 0 0 [.ref 117, .int (nI n), .int (nI w)] h0 (fun rv h' => rv = none ∧ ∃ F', rm_X h0 h' F' S ∧ tm_m F' o (U ++ t) ∧ tm_fr F F' o) := by
  have hm := hm0.X
  obtain ⟨g1, g2, g3⟩ := ht
  refine jd_met (ls := [.ref 117, .int (nI n), .int (nI w)]) rfl rfl rfl ?_
  refine ia_go 3 rfl ?_
  refine jd_cS [.int (nI n), .int (nI w)] [.ref 117] 0 0 (d' := d - 1) rfl rfl rfl rfl rfl (by omega) (by omega) (by omega) (rm_placeOf) ?_
  rintro rv h' ⟨rfl, rfl⟩
  refine ia_go 1 rfl ?_
  refine ia_getf rfl hm.1.1 rfl ?_
  refine ia_go 2 rfl ?_
  refine jd_cS [.int (nI n), .int (nI w)] [.ref 119, .int (nI (500 * n + 121 * w)), .ref 117] 0 0 (d' := d - 1) rfl rfl rfl rfl rfl (by omega) (by omega) (by omega) (rm_lengthAt hn1) ?_
  rintro rv h' ⟨rfl, rfl⟩
  refine rm_ld (K := 1) rfl hm (by decide) rfl (show 4 + 4 * (n - 1) + w < 70 by omega) (by decide) ?_
  rw [g2]
  refine jd_cV 117 [.int (nI (500 * n + 121 * w)), .int (nI t.length)] [] 0 0 (d' := d - 1) rfl rfl rfl hm.1.1 rfl rfl (by omega) (by omega) (by omega) (rm_putText (by omega) hm0 hS ho hU (by omega) g1) ?_
  rintro rv h9 ⟨rfl, hR⟩
  exact jd_rv0 rfl rfl rfl ⟨rfl, hR⟩
theorem tx_r_app (v : Int32) (e a b : List Int32) : tx_r v e (a ++ b) = tx_r v e a ++ tx_r v e b := by
  induction a with
  | nil => rfl
  | cons c a ih =>
    show (if c = v then e ++ tx_r v e (a ++ b) else c :: tx_r v e (a ++ b)) = (if c = v then e ++ tx_r v e a else c :: tx_r v e a) ++ tx_r v e b
    split
    · rw [ih, List.append_assoc]
    · rw [ih]; rfl
theorem rm_prloop {G : ia_G} {h0 : ia_H} {d o n : Nat} {v : Int32} {F : Nat → Nat → Int32} {S : Nat → Int32} {U t e : List Int32} (hd : 3 ≤ d) (hS : S 6 = nI o) (ho : o < 6) (hn1 : 1 ≤ n) (hn : n ≤ 16) (ht : tm_n F n 1 t) (he : tm_s F 3 e) : ∀ (r i : Nat), i + r = t.length → ∀ (h : ia_H) (F1 : Nat → Nat → Int32) (z4 : Value), rm_X h0 h F1 S → tm_m F1 o (U ++ tx_r v e (t.take i)) → tm_fr F F1 o → ia_Sx pg G kk_M_putReplaced d 0 0 2 [.ref 117, .int (nI n), .int v, .int (nI i), z4] [] h (fun rv h' => rv = none ∧ ∃ F', rm_X h0 h' F' S ∧ tm_m F' o (U ++ tx_r v e t) ∧ tm_fr F F' o) := by
  intro r
  induction r with
  | zero =>
    intro i hi h F1 z4 hm h1 h2
    rw [List.take_of_length_le (by omega)] at h1
    have ht1 := ht.fr h2 hn (by omega)
    refine ia_go 2 rfl ?_
    refine ia_getf rfl hm.1.1 rfl ?_
    refine ia_go 2 rfl ?_
    refine jd_cS [.int (nI n), .int (nI 1)] [.ref 119, .int (nI i)] 0 0 (d' := d - 1) rfl rfl rfl rfl rfl (by omega) (by omega) (by omega) (rm_lengthAt hn1) ?_
    rintro rv h' ⟨rfl, rfl⟩
    refine rm_ld (K := 1) rfl hm (by decide) rfl (show 4 + 4 * (n - 1) + 1 < 70 by omega) (by decide) ?_
    rw [ht1.2.1]
    refine ia_go 1 rfl ?_
    rw [if_pos (show nI t.length ≤ nI i from nI_le (by omega) (by have := ht.2.2; omega))]
    exact jd_rv0 rfl rfl rfl ⟨rfl, F1, hm, h1, h2⟩
  | succ r ih =>
    intro i hi h F1 z4 hm h1 h2
    have hit : i < t.length := by omega
    have hl := ht.2.2
    have ht1 := ht.fr h2 hn (by omega)
    have hc : F1 0 (500 * n + 121 * 1 + i) = t[i] := ht1.1 i _ (List.getElem?_eq_getElem hit)
    refine ia_go 2 rfl ?_
    refine ia_getf rfl hm.1.1 rfl ?_
    refine ia_go 2 rfl ?_
    refine jd_cS [.int (nI n), .int (nI 1)] [.ref 119, .int (nI i)] 0 0 (d' := d - 1) rfl rfl rfl rfl rfl (by omega) (by omega) (by omega) (rm_lengthAt hn1) ?_
    rintro rv h' ⟨rfl, rfl⟩
    refine rm_ld (K := 1) rfl hm (by decide) rfl (show 4 + 4 * (n - 1) + 1 < 70 by omega) (by decide) ?_
    rw [ht1.2.1]
    refine ia_go 1 rfl ?_
    rw [if_neg (show ¬ nI t.length ≤ nI i from nI_ge (by omega) (by omega))]
    refine ia_go 1 rfl ?_
    refine ia_getf rfl hm.1.1 rfl ?_
    refine ia_go 2 rfl ?_
    refine jd_cS [.int (nI n), .int (nI 1)] [.ref 118] 0 0 (d' := d - 1) rfl rfl rfl rfl rfl (by omega) (by omega) (by omega) (rm_placeOf) ?_
    rintro rv h' ⟨rfl, rfl⟩
    refine ia_go 2 rfl ?_
    rw [nI_add]
    refine rm_ld (K := 0) rfl hm (by decide) rfl (show 500 * n + 121 * 1 + i < 10600 by omega) (by decide) ?_
    rw [hc]
    refine ia_go 1 rfl ?_
    dsimp only [ia_s1, ia_s2, ia_cl, ia_D, List.getElem?_cons_zero, List.getElem?_cons_succ, List.set_cons_zero, List.set_cons_succ]
    have nxt : ∀ (h9 : ia_H) (F2 : Nat → Nat → Int32), rm_X h0 h9 F2 S → tm_m F2 o (U ++ tx_r v e (t.take (i + 1))) → tm_fr F F2 o → ia_Sx pg G kk_M_putReplaced d 0 0 50 [.ref 117, .int (nI n), .int v, .int (nI i), .int t[i]] [] h9 (fun rv h' => rv = none ∧ ∃ F', rm_X h0 h' F' S ∧ tm_m F' o (U ++ tx_r v e t) ∧ tm_fr F F' o) := by
      intro h9 F2 a1 a2 a3
      refine ia_go 1 rfl ?_
      dsimp only [ia_s1, ia_s2, ia_cl, ia_D, List.getElem?_cons_zero, List.getElem?_cons_succ, List.set_cons_zero, List.set_cons_succ]
      refine ia_go 1 rfl ?_
      rw [show nI i + Int32.ofInt 1 = nI (i + 1) from nI_1 i]
      exact ih (i + 1) (by omega) h9 F2 _ a1 a2 a3
    by_cases hv : t[i] = v
    ·
      refine ia_go 3 rfl ?_
      rw [if_neg (fun z => z hv)]
      refine ia_go 2 rfl ?_
      refine jd_cV 117 [.int (nI 3)] [] 0 0 (d' := d - 1) rfl rfl rfl hm.1.1 rfl rfl (by omega) (by omega) (by omega) (rm_putSlot (by omega) hm.1 hS ho h1 (by omega) (he.fr h2 (by omega))) ?_
      rintro rv h9 ⟨rfl, F2, hm2, g1, g2⟩
      refine ia_go 1 rfl ?_
      refine nxt h9 F2 (hm.tr hm2) ?_ (h2.tr g2)
      rw [List.take_succ_eq_append_getElem hit, tx_r_app, show tx_r v e [t[i]] = e by unfold tx_r; rw [if_pos hv]; simp [tx_r], ← List.append_assoc]
      exact g1
    ·
      refine ia_go 3 rfl ?_
      rw [if_pos hv]
      refine ia_go 2 rfl ?_
      refine jd_cV 117 [.int t[i]] [] 0 0 (d' := d - 1) rfl rfl rfl hm.1.1 rfl rfl (by omega) (by omega) (by omega) (rm_put1 hm.1 hS ho h1) ?_
      rintro rv h9 ⟨rfl, F2, hm2, g1, g2⟩
      refine nxt h9 F2 (hm.tr hm2) ?_ (h2.tr g2)
      rw [List.take_succ_eq_append_getElem hit, tx_r_app, show tx_r v e [t[i]] = [t[i]] by unfold tx_r; rw [if_neg hv]; simp [tx_r], ← List.append_assoc]
      exact g1
theorem rm_putReplaced {G : ia_G} {h0 : ia_H} {d o n : Nat} {v : Int32} {F : Nat → Nat → Int32} {S : Nat → Int32} {U t e : List Int32} (hd : 3 ≤ d) (hm0 : rm h0 F S) (hS : S 6 = nI o) (ho : o < 6) (hU : tm_m F o U) (hn1 : 1 ≤ n) (hn : n ≤ 16) (ht : tm_n F n 1 t) (he : tm_s F 3 e) : ia_Cn pg G kk_M_putReplaced d 0 0 [.ref 117, .int (nI n), .int v] h0 (fun rv h' => rv = none ∧ ∃ F', rm_X h0 h' F' S ∧ tm_m F' o (U ++ tx_r v e t) ∧ tm_fr F F' o) := by
  refine jd_met (ls := [.ref 117, .int (nI n), .int v, .retAddr 0, .retAddr 0]) rfl rfl rfl ?_
  refine ia_go 2 rfl ?_
  dsimp only [ia_s1, ia_s2, ia_cl, ia_D, List.getElem?_cons_zero, List.getElem?_cons_succ, List.set_cons_zero, List.set_cons_succ]
  exact rm_prloop hd hS ho hn1 hn ht he t.length 0 (by omega) h0 F _ hm0.X (by simpa [tx_r] using hU) tm_fr.rf
theorem rm_shloop {G : ia_G} {h0 : ia_H} {d i : Nat} {c : Int32} {F : Nat → Nat → Int32} {S : Nat → Int32} {t : List Int32} (hm : rm h0 F S) (hi : i < 4) (ht : tm_s F i t) : ∀ (r m : Nat), m + r = t.length → ∀ b : Int32, (b = 0 ∧ ¬ c ∈ t.take m) ∨ (b = 1 ∧ c ∈ t.take m) → ia_Sx pg G kk_M_slotHas d 0 0 5 [.ref 117, .int (nI i), .int c, .int b, .int (nI m)] [] h0 (fun rv h' => h' = h0 ∧ ((rv = some (.int 0) ∧ ¬ c ∈ t) ∨ (rv = some (.int 1) ∧ c ∈ t))) := by
  obtain ⟨g1, g2, g3⟩ := ht
  have hX := hm.X
  intro r
  induction r with
  | zero =>
    intro m hm1 b hb
    rw [List.take_of_length_le (by omega)] at hb
    refine ia_go 2 rfl ?_
    refine ia_getf rfl hm.1 rfl ?_
    refine ia_go 1 rfl ?_
    refine rm_ld (K := 1) rfl hX (by decide) rfl (show i < 70 by omega) (by decide) ?_
    rw [g2]
    refine ia_go 1 rfl ?_
    rw [if_pos (show nI t.length ≤ nI m from nI_le (by omega) (by omega))]
    refine ia_go 1 rfl ?_
    refine jd_rv1 rfl rfl rfl ?_ ⟨rfl, ?_⟩
    · rcases hb with ⟨rfl, -⟩ | ⟨rfl, -⟩ <;> rfl
    · rcases hb with ⟨rfl, h⟩ | ⟨rfl, h⟩
      · exact Or.inl ⟨rfl, h⟩
      · exact Or.inr ⟨rfl, h⟩
  | succ r ih =>
    intro m hm1 b hb
    have hmt : m < t.length := by omega
    have hc : F 0 (9000 + 60 * i + m) = t[m] := g1 m _ (List.getElem?_eq_getElem hmt)
    have nxt : ∀ b' : Int32, ((b' = 0 ∧ ¬ c ∈ t.take (m + 1)) ∨ (b' = 1 ∧ c ∈ t.take (m + 1))) → ia_Sx pg G kk_M_slotHas d 0 0 45 [.ref 117, .int (nI i), .int c, .int b, .int (nI m)] [.int b'] h0 (fun rv h' => h' = h0 ∧ ((rv = some (.int 0) ∧ ¬ c ∈ t) ∨ (rv = some (.int 1) ∧ c ∈ t))) := by
      intro b' hb'
      refine ia_go 1 rfl ?_
      dsimp only [ia_s1, ia_s2, ia_cl, ia_D, List.getElem?_cons_zero, List.getElem?_cons_succ, List.set_cons_zero, List.set_cons_succ]
      refine ia_go 1 rfl ?_
      dsimp only [ia_s1, ia_s2, ia_cl, ia_D, List.getElem?_cons_zero, List.getElem?_cons_succ, List.set_cons_zero, List.set_cons_succ]
      refine ia_go 1 rfl ?_
      rw [show nI m + Int32.ofInt 1 = nI (m + 1) from nI_1 m]
      exact ih (m + 1) (by omega) b' hb'
    have hmem : c ∈ t.take (m + 1) ↔ c ∈ t.take m ∨ c = t[m] := by
      rw [List.take_succ_eq_append_getElem hmt, List.mem_append, List.mem_singleton]
    refine ia_go 2 rfl ?_
    refine ia_getf rfl hm.1 rfl ?_
    refine ia_go 1 rfl ?_
    refine rm_ld (K := 1) rfl hX (by decide) rfl (show i < 70 by omega) (by decide) ?_
    rw [g2]
    refine ia_go 1 rfl ?_
    rw [if_neg (show ¬ nI t.length ≤ nI m from nI_ge (by omega) (by omega))]
    rcases hb with ⟨rfl, h⟩ | ⟨rfl, h⟩
    ·
      refine ia_go 2 rfl ?_
      rw [if_neg (by decide)]
      refine ia_go 1 rfl ?_
      refine ia_getf rfl hm.1 rfl ?_
      refine ia_go 7 rfl ?_
      rw [rm_mul60, nI_add]
      refine rm_ld (K := 0) rfl hX (by decide) rfl (show 9000 + 60 * i + m < 10600 by omega) (by decide) ?_
      rw [hc]
      refine ia_go 2 rfl ?_
      by_cases hcc : t[m] = c
      · rw [if_neg (fun z => z hcc)]
        refine ia_go 2 rfl ?_
        exact nxt 1 (Or.inr ⟨rfl, hmem.mpr (Or.inr hcc.symm)⟩)
      · rw [if_pos hcc]
        refine ia_go 1 rfl ?_
        exact nxt 0 (Or.inl ⟨rfl, fun z => (hmem.mp z).elim h (fun z => hcc z.symm)⟩)
    ·
      refine ia_go 2 rfl ?_
      rw [if_pos (by decide)]
      refine ia_go 2 rfl ?_
      exact nxt 1 (Or.inr ⟨rfl, hmem.mpr (Or.inl h)⟩)
theorem rm_slotHas {G : ia_G} {h0 : ia_H} {d i : Nat} {c : Int32} {F : Nat → Nat → Int32} {S : Nat → Int32} {t : List Int32} (hm : rm h0 F S) (hi : i < 4) (ht : tm_s F i t) : ia_Cn pg G kk_M_slotHas d 0 0 [.ref 117, .int (nI i), .int c] h0 (fun rv h' => h' = h0 ∧ ((rv = some (.int 0) ∧ ¬ c ∈ t) ∨ (rv = some (.int 1) ∧ c ∈ t))) := by
  refine jd_met (ls := [.ref 117, .int (nI i), .int c, .retAddr 0, .retAddr 0]) rfl rfl rfl ?_
  refine ia_go 2 rfl ?_
  dsimp only [ia_s1, ia_s2, ia_cl, ia_D, List.getElem?_cons_zero, List.getElem?_cons_succ, List.set_cons_zero, List.set_cons_succ]
  refine ia_go 2 rfl ?_
  dsimp only [ia_s1, ia_s2, ia_cl, ia_D, List.getElem?_cons_zero, List.getElem?_cons_succ, List.set_cons_zero, List.set_cons_succ]
  exact rm_shloop hm hi ht t.length 0 (by omega) 0 (Or.inl ⟨rfl, by simp⟩)
