/-! THE STATE AND THE REFERENCE'S ROWS: behind each call. -/
section RT
variable {A : aS} {F F' : Nat → Nat → Int32} {S S' : Nat → Int32}
theorem ri_type {w : Int64} {N : Nat} (h : RI A F S) (h60 : (aB A).length + N ≤ 60) (hj : ∀ j, j < N → F' 0 (10500 + (aB A).length + j) = ty_c w (N - 1 - j)) (hk : ∀ k j, k ≠ 0 ∨ j < 10500 + (aB A).length ∨ 10500 + (aB A).length + N ≤ j → F' k j = F k j) : RI (aB A ++ ty_l w N, A.2) F' (rm_s S 0 (nI ((aB A).length + N))) := by
  obtain ⟨⟨b1, b2, b3⟩, q, s, n, d, wt⟩ := h
  refine ⟨⟨fun j c hc => ?_, ?_, ?_⟩, fun i hi => (q i hi).keep (fun j hj => hk 0 _ (Or.inr (Or.inl (by omega)))) (hk 1 _ (Or.inl (by decide))), s, fun m m1 m2 => (n m m1 m2).kept (sn_of m2 (fun k j hk' hj => hk k j (by omega))), fun j hj => (hk 17 j (Or.inl (by decide))).trans (d j hj), fun j hj => (hk 23 j (Or.inl (by decide))).trans (wt j hj)⟩
  · by_cases hj' : j < (aB A).length
    · rw [show aB (aB A ++ ty_l w N, A.2) = aB A ++ ty_l w N from rfl, List.getElem?_append_left hj'] at hc
      exact (hk 0 _ (Or.inr (Or.inl (by omega)))).trans (b1 j c hc)
    · rw [show aB (aB A ++ ty_l w N, A.2) = aB A ++ ty_l w N from rfl, List.getElem?_append_right (by omega)] at hc
      have hl := (List.getElem?_eq_some_iff.mp hc).1
      rw [ty_l_len] at hl
      rw [ty_l_get hl] at hc
      cases hc
      rw [← hj (j - (aB A).length) hl]
      congr 1
      omega
  · show nI ((aB A).length + N) = nI (aB A ++ ty_l w N).length
    rw [List.length_append, ty_l_len]
  · show (aB A ++ ty_l w N).length ≤ 60
    rw [List.length_append, ty_l_len]; exact h60
theorem ri_holdq (h : RI A F S) (hk : ∀ k j, k ≠ 14 → F' k j = F k j) : RI ([], A.2) F' (rm_s S 0 0) := by
  obtain ⟨-, q, s, n, d, wt⟩ := h
  exact ⟨⟨fun j c hc => (by have h2 : ([] : List Int32)[j]? = some c := hc; simp at h2), rfl, Nat.zero_le _⟩, fun i hi => (q i hi).keep (fun j hj => hk 0 _ (by decide)) (hk 1 _ (by decide)), s, fun m m1 m2 => (n m m1 m2).kept (sn_of m2 (fun k j hk' hj => hk k j (by omega))), fun j hj => (hk 17 j (by decide)).trans (d j hj), fun j hj => (hk 23 j (by decide)).trans (wt j hj)⟩
theorem ri_hold {i : Nat} (h : RI A F S) (hi : i < 4) (hs : tm_s F' i (aB A)) (hk : ∀ k j, k ≠ 14 → (k ≠ 0 ∨ j < 9000 + 60 * i ∨ 9000 + 60 * i + (aB A).length ≤ j) → (k ≠ 1 ∨ j ≠ i) → F' k j = F k j) : RI ([], (fun j => if j = i then aB A else aQ A j), A.2.2) F' (rm_s S 0 0) := by
  obtain ⟨⟨b1, b2, b3⟩, q, s, n, d, wt⟩ := h
  refine ⟨⟨fun j c hc => (by have h2 : ([] : List Int32)[j]? = some c := hc; simp at h2), rfl, Nat.zero_le _⟩, fun j hj => ?_, s, fun m m1 m2 => (n m m1 m2).kept ⟨fun k h1 h2 => hk k m (by omega) (Or.inl (by omega)) (Or.inl (by omega)), fun w t hw h => h.keep (fun j hj => hk 0 _ (by decide) (Or.inr (Or.inl (by omega))) (Or.inl (by decide))) (hk 1 _ (by decide) (Or.inl (by decide)) (Or.inr (by omega))), fun g h => tm_g.keep h (fun j hj => hk 11 _ (by decide) (Or.inl (by decide)) (Or.inl (by decide))) (hk 12 _ (by decide) (Or.inl (by decide)) (Or.inl (by decide)))⟩, fun j hj => (hk 17 j (by decide) (Or.inl (by decide)) (Or.inl (by decide))).trans (d j hj), fun j hj => (hk 23 j (by decide) (Or.inl (by decide)) (Or.inl (by decide))).trans (wt j hj)⟩
  show tm_s F' j (if j = i then aB A else aQ A j)
  by_cases e : j = i
  · rw [if_pos e, e]; exact hs
  · rw [if_neg e]
    exact (q j hj).keep (fun k hk' => hk 0 _ (by decide) (Or.inr (by omega)) (Or.inl (by decide))) (hk 1 _ (by decide) (Or.inl (by decide)) (Or.inr e))
theorem ri_begin {fr : Int32} (h : RI A F S) (g0 : tm_n F' 1 0 (aQ A 0)) (g1 : tm_n F' 1 1 (aQ A 1)) (e : F' 2 1 = 1 ∧ F' 3 1 = fr ∧ F' 4 1 = 0 ∧ F' 5 1 = 0 ∧ F' 6 1 = 0 ∧ F' 7 1 = 0 ∧ F' 8 1 = 0 ∧ F' 9 1 = 0) (ez : ∀ j, 2 ≤ j → j ≤ 16 → F' 2 j = 0) (hk : ∀ k j, k ≠ 0 ∨ j < 500 ∨ 742 ≤ j → k ≠ 1 ∨ (j ≠ 4 ∧ j ≠ 5) → k ≠ 2 ∨ j = 0 ∨ 17 ≤ j → k < 3 ∨ 9 < k ∨ j ≠ 1 → F' k j = F k j) : RI (aB A, aQ A, bgN (aN A) fr (aQ A 0) (aQ A 1), A.2.2.2) F' S := by
  obtain ⟨⟨b1, b2, b3⟩, q, s, n, d, wt⟩ := h
  obtain ⟨e2, e3, e4, e5, e6, e7, e8, e9⟩ := e
  refine ⟨⟨b1.keep (fun j hj => hk 0 _ (by omega) (by omega) (by omega) (by omega)), b2, b3⟩, fun i hi => (q i hi).keep (fun j hj => hk 0 _ (by omega) (by omega) (by omega) (by omega)) (hk 1 _ (by omega) (by omega) (by omega) (by omega)), s, fun m m1 m2 => ?_, fun j hj => (hk 17 j (by omega) (by omega) (by omega) (by omega)).trans (d j hj), fun j hj => (hk 23 j (by omega) (by omega) (by omega) (by omega)).trans (wt j hj)⟩
  show RN (bgN (aN A) fr (aQ A 0) (aQ A 1) m) F' m
  by_cases hm : m = 1
  · subst hm
    rw [show bgN (aN A) fr (aQ A 0) (aQ A 1) 1 = nwN fr 0 0 (aQ A 0) (aQ A 1) from if_pos rfl]
    refine ⟨e2, fun _ => ⟨⟨e3, e4, e5, e6, e7, e8, e9, fun z => absurd z (by show ¬ 0 = 2; omega)⟩, fun w hw => ?_, fun z => absurd z (by show ¬ (0 = 2 ∨ 0 = 4 ∨ 0 = 5); omega)⟩⟩
    have hw2 : w < 2 + 0 := hw
    rcases (show w = 0 ∨ w = 1 by omega) with rfl | rfl
    · exact g0
    · exact g1
  · rw [show bgN (aN A) fr (aQ A 0) (aQ A 1) m = (false, (aN A m).2) from if_neg hm]
    exact ⟨ez m (by omega) m2, fun z => by cases z⟩
theorem nw_RN {N n P r : Nat} {fr : Int32} {U0 U1 : List Int32} (h : nw F' N fr P U0 U1) : RN (nwN fr P r U0 U1) F' N := by
  obtain ⟨t0, t1, e2, e3, e4, e5, e6, e7, e8, e9⟩ := h
  refine ⟨e2, fun _ => ⟨⟨e3, e4, e5, e6, e7, e8, e9, fun z => absurd z (by show ¬ 0 = 2; omega)⟩, fun w hw => ?_, fun z => absurd z (by show ¬ (0 = 2 ∨ 0 = 4 ∨ 0 = 5); omega)⟩⟩
  have hw2 : w < 2 + 0 := hw
  rcases (show w = 0 ∨ w = 1 by omega) with rfl | rfl
  · exact t0
  · exact t1
theorem az_lf2 {N : Nat → nN} (hN : ∀ n, 1 ≤ n → n ≤ 16 → RN (N n) F n) {l n : Nat} (l1 : 1 ≤ l) (l2 : l ≤ 16) (h : lf (rm_u F 2 l 1) n) : lfN (upN N l (nwN 0 0 0 [] [])) 16 1 = n := by
  have key : ∀ m, 1 ≤ m → m ≤ 16 → (rm_u F 2 l 1 2 m ≠ 0 ↔ zE (upN N l (nwN 0 0 0 [] []) m) = true) := by
    intro m m1 m2
    by_cases e : m = l
    · rw [e, rm_uu, upN_same]; exact ⟨fun _ => rfl, fun _ => by decide⟩
    · rw [rm_un e, upN_ne e]; exact (hN m m1 m2).ex
  obtain ⟨h1, h2, h3, h4⟩ := h
  exact lfN_lf 16 1 n h1 (by omega) (fun z => ((key n h1 h2).mpr z) h3) (fun j j1 j2 => (key j j1 (by omega)).mp (h4 j j1 j2))
theorem ri_refine {n w N1 N2 : Nat} {v : Int32} (h : RI A F S) (hA : AI A) (n1 : 1 ≤ n) (n2 : n ≤ 16) (n3 : zE (aN A n) = true) (w1 : 1 ≤ w) (w8 : w ≤ 8) (hl : zL (aN A n) = 0) (hs : sdN (aN A) (aQ A 0) (aQ A 1) (aQ A 3) n w v) (ok : rfo (aN A) (aR A) (kA A n w) (cA A n w v)) (hD : rf_D F F' n w v (kA A n w) (cA A n w v) (gA A w) N1 N2) (h0 : S' 0 = S 0) (h1 : S' 1 = nI (aR A + 1)) (h6 : ∃ o, o < 6 ∧ S' 6 = nI o) : RI (aB A, aQ A, rfN (aN A) n w v (kA A n w) (cA A n w v) (gA A w), aR A + 1, A.2.2.2.2) F' S' ∧ N1 = k1N (aN A) w := by
  obtain ⟨⟨b1, b2, b3⟩, q, s, nd, d, wt⟩ := h
  obtain ⟨-, -, -, -, h5⟩ := hA
  obtain ⟨⟨rA, rS, rL⟩, rN, f5, f6, rK⟩ := hD
  have kn' : (kA A n w).length = 2 * nkw w := rf_k_n w8
  have cn' : (cA A n w v).length = ncw w := rf_c_n
  have hr : 2 * nkw w + 2 * ctN (aN A) 16 ≤ 32 := by rw [← kn']; exact ok.1.1
  have x1 : 3 ≤ w → (1 ≤ k1N (aN A) w ∧ k1N (aN A) w ≤ 16) ∧ ¬ zE (aN A (k1N (aN A) w)) = true := fun z => k1N_in w8 z hr
  have x2 : w = 3 ∨ w = 4 → (1 ≤ k2N (aN A) w ∧ k2N (aN A) w ≤ 16) ∧ ¬ zE (aN A (k2N (aN A) w)) = true ∧ k1N (aN A) w ≠ k2N (aN A) w := fun z => k2N_in z hr
  have y1 : 3 ≤ w → k1N (aN A) w ≠ n := fun z q => (x1 z).2 (q ▸ n3)
  have y2 : w = 3 ∨ w = 4 → k2N (aN A) w ≠ n := fun z q => (x2 z).2.1 (q ▸ n3)
  -- the numbers
  have num1 : N1 = k1N (aN A) w ∧ N2 = k2N (aN A) w ∧ (3 ≤ w → nw F' N1 (if w = 8 then v else F 3 n) n ((kA A n w).getD 0 []) ((kA A n w).getD 1 [])) ∧ (w = 3 ∨ w = 4 → nw F' N2 (if w = 8 then v else F 3 n) n ((kA A n w).getD 2 []) ((kA A n w).getD 3 [])) := by
    rcases rK with ⟨k0, e1, e2⟩ | ⟨U0, U1, k0, l1, e2, w0⟩ | ⟨U0, U1, U2, U3, k0, l1, l2, wa, wb⟩
    · have hw : w < 3 := by
        rcases Nat.lt_or_ge w 3 with z | z
        · exact z
        · rw [k0] at kn'
          have z0 : 0 = 2 * nkw w := kn'
          unfold nkw at z0
          split at z0
          · omega
          · rw [if_pos (by omega)] at z0; omega
      exact ⟨e1.trans (if_neg (by omega)).symm, e2.trans (if_neg (by omega)).symm, fun z => by omega, fun z => by omega⟩
    · have hw : 5 ≤ w := by
        rcases Nat.lt_or_ge w 5 with z | z
        · rw [k0] at kn'
          have z0 : 2 = 2 * nkw w := kn'
          unfold nkw at z0
          split at z0
          · omega
          · rw [if_neg (by omega)] at z0; omega
        · exact z
      refine ⟨(az_lf nd l1).symm.trans (if_pos (by omega)).symm, e2.trans (if_neg (by omega)).symm, fun z => by rw [k0]; exact w0, fun z => by omega⟩
    · have hw : w = 3 ∨ w = 4 := by
        by_cases z : w = 3 ∨ w = 4
        · exact z
        · rw [k0] at kn'
          have z0 : 4 = 2 * nkw w := kn'
          unfold nkw at z0
          rw [if_neg z] at z0
          split at z0 <;> omega
      have e1 := az_lf nd l1
      refine ⟨e1.symm.trans (if_pos (by omega)).symm, ?_, fun z => by rw [k0]; exact wa, fun z => by rw [k0]; exact wb⟩
      refine Eq.trans ?_ (if_pos hw).symm
      rw [e1]
      exact (az_lf2 nd l1.1 l1.2.1 l2).symm
  obtain ⟨eN1, eN2, w1', w2'⟩ := num1
  obtain ⟨⟨c3, c4, c5, c6, c7, c8, c9, c10⟩, ct, -⟩ := (nd n n1 n2).2 n3
  have cO : zO (aN A n) = false := by
    obtain ⟨-, -, -, -, -, -, -, -, o⟩ := h5 n n1 n2 n3
    cases hz : zO (aN A n) with
    | false => rfl
    | true => exact absurd hl (o hz).1
  refine ⟨⟨⟨b1.keep (fun j hj => rL.2.1 _ (by omega)), h0.trans b2, b3⟩, fun i hi => rL.1 i _ hi (q i hi), ⟨h1, ok.1.2, h6⟩, fun m m1 m2 => ?_, fun j hj => (rL.2.2 17 j (by omega)).trans (d j hj), fun j hj => (rL.2.2 23 j (by omega)).trans (wt j hj)⟩, eN1⟩
  show RN (rfN (aN A) n w v (kA A n w) (cA A n w v) (gA A w) m) F' m
  by_cases hm : m = n
  · subst hm
    rw [rfN_at]
    obtain ⟨g4, g10, gg, g8, gc⟩ := rN
    refine ⟨(rS.1 2 (Or.inl rfl)).trans (nd m m1 m2).1, fun _ => ⟨⟨(rS.1 3 (by omega)).trans c3, g4, by rw [f5, eN1]; rfl, by rw [f6, eN2]; rfl, (rS.1 7 (by omega)).trans c7, by rw [g8, cn']; rfl, ?_, fun z => ?_⟩, fun i hi => ?_, fun _ => gg⟩⟩
    · rw [(rS.1 9 (by omega)).trans c9, cO]; rfl
    · have z2 : w = 2 := z
      obtain ⟨⟨v0, v2, -⟩, -⟩ := hs.1 z2
      obtain ⟨k, hk, rfl⟩ := nI_of2 (n := 2) (M := 2) rfl (Int32.not_lt.mpr v0) v2
      rw [g10]
      show nI k = nI (nI k).toNatClampNeg
      rw [nI_clamp (by omega)]
    · have hi' : i < 2 + ncw w := hi
      show tm_n F' m i (if i < 2 then zT (aN A m) i else (cA A m w v).getD (i - 2) [])
      by_cases i2 : i < 2
      · rw [if_pos i2]; exact rS.2 i _ (by omega) (ct i (by omega))
      · rw [if_neg i2]
        have hlt : i - 2 < (cA A m w v).length := by omega
        have e : (cA A m w v)[i - 2]? = some ((cA A m w v).getD (i - 2) []) := by
          rw [List.getD_eq_getElem?_getD, List.getElem?_eq_getElem hlt]; rfl
        have := gc (i - 2) _ e (by have := ncw_le w; omega)
        rw [show 2 + (i - 2) = i by omega] at this
        exact this
  · by_cases k1 : 3 ≤ w ∧ m = k1N (aN A) w
    · obtain ⟨z3, rfl⟩ := k1
      rw [rfN_1 z3 (y1 z3)]
      have := w1' z3
      rw [eN1, c3] at this
      exact nw_RN (n := 0) this
    · by_cases k2 : (w = 3 ∨ w = 4) ∧ m = k2N (aN A) w
      · obtain ⟨z3, rfl⟩ := k2
        rw [rfN_2 z3 (y2 z3) (fun q => (x2 z3).2.2 q.symm)]
        have := w2' z3
        rw [eN2, c3] at this
        exact nw_RN (n := 0) this
      · rw [rfN_o hm (fun z q => k1 ⟨z, q⟩) (fun z q => k2 ⟨z, q⟩)]
        refine (nd m m1 m2).kept (rA m m1 m2 hm (fun z => ?_))
        rcases List.mem_cons.mp z with z | z
        · by_cases z3 : w = 3 ∨ w = 4
          · exact k2 ⟨z3, z.trans eN2⟩
          · rw [show k2N (aN A) w = 0 from if_neg z3] at eN2; omega
        · rcases List.mem_cons.mp z with z | z
          · by_cases z3 : 3 ≤ w
            · exact k1 ⟨z3, z.trans eN1⟩
            · rw [show k1N (aN A) w = 0 from if_neg z3] at eN1; omega
          · cases z
theorem ri_prove1 {n : Nat} (h : RI A F S) (n1 : 1 ≤ n) (n2 : n ≤ 16) (e9 : F' 9 n = 1) (hS : ∀ k, k ≠ 7 → S' k = S k) (hk : ∀ k j, k ≠ 15 → k ≠ 16 → (k ≠ 9 ∨ j ≠ n) → F' k j = F k j) : RI (aB A, aQ A, upN (aN A) n (pvN (aN A n)), A.2.2.2) F' S' := by
  obtain ⟨⟨b1, b2, b3⟩, q, ⟨s1, s2, o, o1, o2⟩, nd, d, wt⟩ := h
  refine ⟨⟨b1.keep (fun j hj => hk 0 _ (by decide) (by decide) (Or.inl (by decide))), (hS 0 (by decide)).trans b2, b3⟩, fun i hi => (q i hi).keep (fun j hj => hk 0 _ (by decide) (by decide) (Or.inl (by decide))) (hk 1 _ (by decide) (by decide) (Or.inl (by decide))), ⟨(hS 1 (by decide)).trans s1, s2, o, o1, (hS 6 (by decide)).trans o2⟩, fun m m1 m2 => ?_, fun j hj => (hk 17 j (by decide) (by decide) (Or.inl (by decide))).trans (d j hj), fun j hj => (hk 23 j (by decide) (by decide) (Or.inl (by decide))).trans (wt j hj)⟩
  show RN (upN (aN A) n (pvN (aN A n)) m) F' m
  have kn : ∀ w t, tm_n F m w t → tm_n F' m w t := fun w t z => z.keep (fun j hj => hk 0 _ (by decide) (by decide) (Or.inl (by decide))) (hk 1 _ (by decide) (by decide) (Or.inl (by decide)))
  have kg : ∀ g, tm_g F m g → tm_g F' m g := fun g z => tm_g.keep z (fun j hj => hk 11 _ (by decide) (by decide) (Or.inl (by decide))) (hk 12 _ (by decide) (by decide) (Or.inl (by decide)))
  by_cases hm : m = n
  · subst hm
    rw [upN_same]
    obtain ⟨r1, r2⟩ := nd m m1 m2
    refine ⟨(hk 2 _ (by decide) (by decide) (Or.inl (by decide))).trans r1, fun e => ?_⟩
    obtain ⟨⟨c3, c4, c5, c6, c7, c8, c9, c10⟩, ct, cg⟩ := r2 e
    exact ⟨⟨(hk 3 _ (by decide) (by decide) (Or.inl (by decide))).trans c3, (hk 4 _ (by decide) (by decide) (Or.inl (by decide))).trans c4, (hk 5 _ (by decide) (by decide) (Or.inl (by decide))).trans c5, (hk 6 _ (by decide) (by decide) (Or.inl (by decide))).trans c6, (hk 7 _ (by decide) (by decide) (Or.inl (by decide))).trans c7, (hk 8 _ (by decide) (by decide) (Or.inl (by decide))).trans c8, e9, fun z => (hk 10 _ (by decide) (by decide) (Or.inl (by decide))).trans (c10 z)⟩, fun w hw => kn w _ (ct w hw), fun z => kg _ (cg z)⟩
  · rw [upN_ne hm]
    exact (nd m m1 m2).kept ⟨fun k k1 k2 => hk k m (by omega) (by omega) (Or.inr hm), fun w t _ z => kn w t z, fun g z => kg g z⟩
theorem ri_prove0 {E : Nat → Int32} (h : RI A F S) (hE : ∀ j, j < 5 → F' 17 j = E j) (hS : ∀ k, k ≠ 7 → S' k = S k) (hk : ∀ k j, k ≠ 15 → k ≠ 16 → k ≠ 17 → F' k j = F k j) : RI (aB A, aQ A, aN A, aR A, E, aW A) F' S' := by
  obtain ⟨⟨b1, b2, b3⟩, q, ⟨s1, s2, o, o1, o2⟩, nd, d, wt⟩ := h
  exact ⟨⟨b1.keep (fun j hj => hk 0 _ (by decide) (by decide) (by decide)), (hS 0 (by decide)).trans b2, b3⟩, fun i hi => (q i hi).keep (fun j hj => hk 0 _ (by decide) (by decide) (by decide)) (hk 1 _ (by decide) (by decide) (by decide)), ⟨(hS 1 (by decide)).trans s1, s2, o, o1, (hS 6 (by decide)).trans o2⟩, fun m m1 m2 => (nd m m1 m2).kept (sn_of m2 (fun k j hk' _ => hk k j (by omega) (by omega) (by omega))), hE, fun j hj => (hk 23 j (by decide) (by decide) (by decide)).trans (wt j hj)⟩
theorem ri_prune {q : Nat} (h : RI A F S) (q1 : 1 ≤ q) (q2 : q ≤ 16) (hw : ∀ j, 1 ≤ j → j ≤ 16 → (pwN (aN A) q j → F' 2 j = 0) ∧ (¬ pwN (aN A) q j → F' 2 j = F 2 j)) (nq : ¬ pwN (aN A) q q) (e : F' 4 q = 0 ∧ F' 5 q = 0 ∧ F' 6 q = 0 ∧ F' 8 q = 0 ∧ F' 9 q = 0) (hk : ∀ k j, k ≠ 14 → (k ≠ 2 ∨ j = 0 ∨ 17 ≤ j) → ((k ≠ 4 ∧ k ≠ 5 ∧ k ≠ 6 ∧ k ≠ 8 ∧ k ≠ 9) ∨ j ≠ q) → F' k j = F k j) : RI (aB A, aQ A, prN (aN A) q, A.2.2.2) F' S := by
  obtain ⟨⟨b1, b2, b3⟩, qq, s, nd, d, wt⟩ := h
  obtain ⟨e4, e5, e6, e8, e9⟩ := e
  have h0 : ∀ j, F' 0 j = F 0 j := fun j => hk 0 j (by decide) (Or.inl (by decide)) (Or.inl (by decide))
  have hh1 : ∀ j, F' 1 j = F 1 j := fun j => hk 1 j (by decide) (Or.inl (by decide)) (Or.inl (by decide))
  refine ⟨⟨b1.keep (fun j hj => h0 _), b2, b3⟩, fun i hi => (qq i hi).keep (fun j hj => h0 _) (hh1 _), s, fun m m1 m2 => ?_, fun j hj => (hk 17 j (by decide) (Or.inl (by decide)) (Or.inl (by decide))).trans (d j hj), fun j hj => (hk 23 j (by decide) (Or.inl (by decide)) (Or.inl (by decide))).trans (wt j hj)⟩
  show RN (prN (aN A) q m) F' m
  have kn : ∀ w t, tm_n F m w t → tm_n F' m w t := fun w t z => z.keep (fun j hj => h0 _) (hh1 _)
  have kg : ∀ g, tm_g F m g → tm_g F' m g := fun g z => tm_g.keep z (fun j hj => hk 11 _ (by decide) (Or.inl (by decide)) (Or.inl (by decide))) (hk 12 _ (by decide) (Or.inl (by decide)) (Or.inl (by decide)))
  by_cases hm : m = q
  · subst hm
    rw [prN_at]
    obtain ⟨r1, r2⟩ := nd m m1 m2
    refine ⟨((hw m m1 m2).2 nq).trans r1, fun z => ?_⟩
    obtain ⟨⟨c3, c4, c5, c6, c7, c8, c9, c10⟩, ct, cg⟩ := r2 z
    refine ⟨⟨(hk 3 m (by decide) (Or.inl (by decide)) (Or.inl (by decide))).trans c3, e4, e5, e6, (hk 7 m (by decide) (Or.inl (by decide)) (Or.inl (by decide))).trans c7, e8, e9, fun z => absurd z (by show ¬ 0 = 2; omega)⟩, fun w hw => kn w _ (ct w (by have h2 : w < 2 + 0 := hw; omega)), fun z => absurd z (by show ¬ (0 = 2 ∨ 0 = 4 ∨ 0 = 5); omega)⟩
  · by_cases hp : pwN (aN A) q m
    · rw [prN_go hm hp]
      exact ⟨(hw m m1 m2).1 hp, fun z => by cases z⟩
    · rw [prN_stay hm hp]
      refine (nd m m1 m2).kept ⟨fun k k1 k2 => ?_, fun w t _ z => kn w t z, fun g z => kg g z⟩
      by_cases e2 : k = 2
      · rw [e2]; exact (hw m m1 m2).2 hp
      · exact hk k m (by omega) (Or.inl e2) (Or.inr hm)
theorem ri_run {W : Nat → Int32} (h : RI A F S) (hW : ∀ j, j < 4 → F' 23 j = W j) (hS : ∀ k, k ≠ 4 → k ≠ 5 → k ≠ 7 → S' k = S k) (hk : ∀ k j, k < 15 ∨ k = 17 → F' k j = F k j) : RI (aB A, aQ A, aN A, aR A, aD A, W) F' S' := by
  obtain ⟨⟨b1, b2, b3⟩, q, ⟨s1, s2, o, o1, o2⟩, nd, d, wt⟩ := h
  exact ⟨⟨b1.keep (fun j hj => hk 0 _ (by omega)), (hS 0 (by decide) (by decide) (by decide)).trans b2, b3⟩, fun i hi => (q i hi).keep (fun j hj => hk 0 _ (by omega)) (hk 1 _ (by omega)), ⟨(hS 1 (by decide) (by decide) (by decide)).trans s1, s2, o, o1, (hS 6 (by decide) (by decide) (by decide)).trans o2⟩, fun m m1 m2 => (nd m m1 m2).kept (sn_of m2 (fun k j hk' _ => hk k j (by omega))), fun j hj => (hk 17 j (by omega)).trans (d j hj), hW⟩
end RT
