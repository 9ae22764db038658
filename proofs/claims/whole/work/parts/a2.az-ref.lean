/-! THE STATE KEEPS ITSELF: refine. -/
theorem lfN_ok {N : Nat → nN} : ∀ (k i : Nat), (∃ n, i ≤ n ∧ n < i + k ∧ ¬ zE (N n) = true) → (i ≤ lfN N k i ∧ lfN N k i < i + k) ∧ ¬ zE (N (lfN N k i)) = true ∧ ∀ j, i ≤ j → j < lfN N k i → zE (N j) = true := by
  intro k
  induction k with
  | zero => rintro i ⟨n, h1, h2, -⟩; omega
  | succ k ih =>
    rintro i ⟨n, h1, h2, h3⟩
    by_cases hi : zE (N i) = true
    · have e : lfN N (k + 1) i = lfN N k (i + 1) := if_pos hi
      have hn : i ≠ n := fun z => h3 (z ▸ hi)
      obtain ⟨⟨a1, a2⟩, a3, a4⟩ := ih (i + 1) ⟨n, by omega, by omega, h3⟩
      rw [e]
      refine ⟨⟨by omega, by omega⟩, a3, fun j j1 j2 => ?_⟩
      by_cases hj : j = i
      · rw [hj]; exact hi
      · exact a4 j (by omega) j2
    · have e : lfN N (k + 1) i = i := if_neg hi
      rw [e]
      exact ⟨⟨by omega, by omega⟩, hi, fun j j1 j2 => by omega⟩
theorem ctN_all {N : Nat → nN} : ∀ i, (∀ j, 1 ≤ j → j ≤ i → zE (N j) = true) → ctN N i = i := by
  intro i
  induction i with
  | zero => intro _; rfl
  | succ i ih =>
    intro h
    show ctN N i + (if zE (N (i + 1)) = true then 1 else 0) = i + 1
    rw [ih (fun j j1 j2 => h j j1 (by omega)), if_pos (h (i + 1) (by omega) (by omega))]
theorem lfN_in {N : Nat → nN} (h : ctN N 16 < 16) : (1 ≤ lfN N 16 1 ∧ lfN N 16 1 ≤ 16) ∧ ¬ zE (N (lfN N 16 1)) = true ∧ ∀ j, 1 ≤ j → j < lfN N 16 1 → zE (N j) = true := by
  have ex : ∃ n, 1 ≤ n ∧ n < 1 + 16 ∧ ¬ zE (N n) = true := by
    refine Classical.byContradiction fun c => ?_
    have := ctN_all (N := N) 16 (fun j j1 j2 => Classical.byContradiction fun z => c ⟨j, j1, by omega, z⟩)
    omega
  obtain ⟨⟨a1, a2⟩, a3, a4⟩ := lfN_ok 16 1 ex
  exact ⟨⟨a1, by omega⟩, a3, a4⟩
theorem ctN_ext {N N' : Nat → nN} : ∀ i, (∀ j, 1 ≤ j → j ≤ i → zE (N' j) = zE (N j)) → ctN N' i = ctN N i := by
  intro i
  induction i with
  | zero => intro _; rfl
  | succ i ih =>
    intro h
    show ctN N' i + (if zE (N' (i + 1)) = true then 1 else 0) = ctN N i + (if zE (N (i + 1)) = true then 1 else 0)
    rw [ih (fun j j1 j2 => h j j1 (by omega)), h (i + 1) (by omega) (by omega)]
theorem ctN_up {N : Nat → nN} {l : Nat} {x : nN} (hx : zE x = true) (hl : ¬ zE (N l) = true) (l1 : 1 ≤ l) : ∀ i, l ≤ i → ctN (upN N l x) i = ctN N i + 1 := by
  intro i
  induction i with
  | zero => intro h; omega
  | succ i ih =>
    intro h
    show ctN (upN N l x) i + (if zE (upN N l x (i + 1)) = true then 1 else 0) = ctN N i + (if zE (N (i + 1)) = true then 1 else 0) + 1
    by_cases e : l = i + 1
    · subst e
      rw [upN_same, if_pos hx, if_neg hl, ctN_ext i (fun j j1 j2 => by rw [upN_ne (by omega)])]
    · rw [ih (by omega), upN_ne (fun z => e z.symm)]
      omega
theorem rf_k_n {w : Nat} {p q f0 f1 e : List Int32} (h8 : w ≤ 8) : (rf_k w p q f0 f1 e).length = 2 * nkw w := by
  unfold rf_k nkw
  rcases (show w = 0 ∨ w = 1 ∨ w = 2 ∨ w = 3 ∨ w = 4 ∨ w = 5 ∨ w = 6 ∨ w = 7 ∨ w = 8 by omega) with rfl | rfl | rfl | rfl | rfl | rfl | rfl | rfl | rfl <;> simp
theorem rf_c_n {w : Nat} {v : Int32} {p q f0 f1 e : List Int32} : (rf_c w v p q f0 f1 e).length = ncw w := by
  unfold rf_c ncw
  by_cases h1 : w = 1
  · subst h1; simp
  · by_cases h2 : w = 2
    · subst h2; simp
    · by_cases h5 : w = 5
      · subst h5; simp
      · by_cases h6 : w = 6
        · subst h6; simp
        · by_cases h7 : w = 7
          · subst h7; simp
          · simp [h1, h2, h5, h6, h7]
theorem rf_k_F {w : Nat} {p q f0 f1 e : List Int32} (hp : tx_F p) (hq : tx_F q) (h0 : tx_F f0) (h1 : tx_F f1) (he : tx_T e) : ∀ U, U ∈ rf_k w p q f0 f1 e → tx_F U := by
  have a4 : tx_F (38 :: (p ++ f0)) := tx_F_b rfl hp h0
  have b4 : tx_F (38 :: (p ++ 33 :: f0)) := tx_F_b rfl hp (tx_F_not h0)
  have e5 : tx_F (61 :: (e ++ [122])) := tx_F_q rfl he tx_T_z
  have l5 : tx_F (60 :: (e ++ [122])) := tx_F_q rfl he tx_T_z
  have a5 : tx_F (38 :: 38 :: (f0 ++ (f1 ++ 61 :: (e ++ [122])))) := by
    have := tx_F_b (c := 38) rfl (tx_F_b (c := 38) rfl h0 h1) e5
    rw [show (38 : Int32) :: 38 :: (f0 ++ (f1 ++ 61 :: (e ++ [122]))) = 38 :: (38 :: (f0 ++ f1) ++ 61 :: (e ++ [122])) by simp]
    exact this
  have b5 : tx_F (38 :: (f0 ++ 60 :: (e ++ [122]))) := tx_F_b rfl h0 l5
  intro U hU
  unfold rf_k at hU
  split at hU
  · simp at hU; rcases hU with rfl | rfl | rfl | rfl <;> assumption
  · split at hU
    · simp only [List.mem_cons, List.not_mem_nil, or_false] at hU; rcases hU with rfl | rfl | rfl | rfl <;> assumption
    · split at hU
      · simp only [List.mem_cons, List.not_mem_nil, or_false] at hU; rcases hU with rfl | rfl <;> assumption
      · split at hU
        · simp only [List.mem_cons, List.not_mem_nil, or_false] at hU; rcases hU with rfl | rfl <;> assumption
        · split at hU
          · simp only [List.mem_cons, List.not_mem_nil, or_false] at hU; rcases hU with rfl | rfl <;> assumption
          · split at hU
            · simp only [List.mem_cons, List.not_mem_nil, or_false] at hU; rcases hU with rfl | rfl <;> assumption
            · cases hU
theorem rf_c_F {w : Nat} {v : Int32} {p q f0 f1 e : List Int32} (hp : tx_F p) (hq : tx_F q) (h0 : tx_F f0) (h1 : tx_F f1) (he : tx_T e) (hv : w = 2 → 0 ≤ v ∧ v ≤ 2) : ∀ U, U ∈ rf_c w v p q f0 f1 e → tx_F U := by
  have a1 : tx_F (62 :: (p ++ q)) := tx_F_b rfl hp hq
  have a5 : tx_F (62 :: (p ++ f0)) := tx_F_b rfl hp h0
  have a6 : tx_F (62 :: (f0 ++ q)) := tx_F_b rfl h0 hq
  have b5 : tx_F (62 :: 38 :: (f0 ++ 33 :: (f1 ++ q))) := by
    have := tx_F_b (c := 62) rfl (tx_F_b (c := 38) rfl h0 (tx_F_not h1)) hq
    rw [show (62 : Int32) :: 38 :: (f0 ++ 33 :: (f1 ++ q)) = 62 :: (38 :: (f0 ++ 33 :: f1) ++ q) by simp]
    exact this
  intro U hU
  unfold rf_c at hU
  split at hU
  · simp only [List.mem_cons, List.not_mem_nil, or_false] at hU; rw [hU]; exact a1
  · split at hU
    next hw =>
      simp only [List.mem_cons, List.not_mem_nil, or_false] at hU
      rw [hU]
      obtain ⟨v0, v2⟩ := hv hw
      obtain ⟨k, hk, rfl⟩ := nI_of2 (n := 2) (M := 2) rfl (Int32.not_lt.mpr v0) v2
      refine tx_F_b rfl hp (tx_r_F ?_ he hq)
      rcases (show k = 0 ∨ k = 1 ∨ k = 2 by omega) with rfl | rfl | rfl <;> decide
    next =>
    split at hU
    · simp only [List.mem_cons, List.not_mem_nil, or_false] at hU; rcases hU with rfl | rfl <;> assumption
    · split at hU
      · simp only [List.mem_cons, List.not_mem_nil, or_false] at hU; rw [hU]; exact a6
      · split at hU
        · simp only [List.mem_cons, List.not_mem_nil, or_false] at hU; rw [hU]; exact a5
        · cases hU
theorem getD_mem {K : List (List Int32)} {i : Nat} (h : i < K.length) : K.getD i [] ∈ K := by
  rw [List.getD_eq_getElem?_getD, List.getElem?_eq_getElem h]
  exact List.getElem_mem h
/-- the children's numbers are free, and different -/
theorem k1N_in {N : Nat → nN} {w : Nat} (h8 : w ≤ 8) (hw : 3 ≤ w) (hr : 2 * nkw w + 2 * ctN N 16 ≤ 32) : (1 ≤ k1N N w ∧ k1N N w ≤ 16) ∧ ¬ zE (N (k1N N w)) = true := by
  have e : k1N N w = lfN N 16 1 := if_pos hw
  have : 1 ≤ nkw w := by unfold nkw; split; omega; split <;> omega
  have l := lfN_in (N := N) (by omega)
  rw [e]; exact ⟨l.1, l.2.1⟩
theorem k2N_in {N : Nat → nN} {w : Nat} (hw : w = 3 ∨ w = 4) (hr : 2 * nkw w + 2 * ctN N 16 ≤ 32) : (1 ≤ k2N N w ∧ k2N N w ≤ 16) ∧ ¬ zE (N (k2N N w)) = true ∧ k1N N w ≠ k2N N w := by
  have e1 : k1N N w = lfN N 16 1 := if_pos (by omega)
  have e2 : k2N N w = lfN (upN N (lfN N 16 1) (nwN 0 0 0 [] [])) 16 1 := if_pos hw
  have n2 : nkw w = 2 := if_pos hw
  have l := lfN_in (N := N) (by omega)
  have c := ctN_up (N := N) (x := nwN 0 0 0 [] []) rfl l.2.1 l.1.1 16 l.1.2
  have l2 := lfN_in (N := upN N (lfN N 16 1) (nwN 0 0 0 [] [])) (by omega)
  rw [e1, e2]
  have ne : lfN (upN N (lfN N 16 1) (nwN 0 0 0 [] [])) 16 1 ≠ lfN N 16 1 := fun z => by
    have q := l2.2.1
    rw [z, upN_same] at q
    exact q rfl
  refine ⟨l2.1, ?_, fun z => ne z.symm⟩
  have q := l2.2.1
  rw [upN_ne ne] at q
  exact q
theorem rfN_at {N : Nat → nN} {n w : Nat} {v : Int32} {K C : List (List Int32)} {g : List Int32} : rfN N n w v K C g n = atN (N n) w (k1N N w) (k2N N w) v g C := if_pos rfl
theorem rfN_1 {N : Nat → nN} {n w : Nat} {v : Int32} {K C : List (List Int32)} {g : List Int32} (hw : 3 ≤ w) (hn : k1N N w ≠ n) : rfN N n w v K C g (k1N N w) = nwN (if w = 8 then v else zF (N n)) n (zR (N n) + 1) (K.getD 0 []) (K.getD 1 []) := (if_neg hn).trans (if_pos ⟨hw, rfl⟩)
theorem rfN_2 {N : Nat → nN} {n w : Nat} {v : Int32} {K C : List (List Int32)} {g : List Int32} (hw : w = 3 ∨ w = 4) (hn : k2N N w ≠ n) (h1 : k2N N w ≠ k1N N w) : rfN N n w v K C g (k2N N w) = nwN (if w = 8 then v else zF (N n)) n (zR (N n) + 1) (K.getD 2 []) (K.getD 3 []) := (if_neg hn).trans ((if_neg fun z => h1 z.2).trans (if_pos ⟨hw, rfl⟩))
theorem rfN_o {N : Nat → nN} {n w m : Nat} {v : Int32} {K C : List (List Int32)} {g : List Int32} (hn : m ≠ n) (h1 : 3 ≤ w → m ≠ k1N N w) (h2 : w = 3 ∨ w = 4 → m ≠ k2N N w) : rfN N n w v K C g m = N m := (if_neg hn).trans ((if_neg fun z => h1 z.1 z.2).trans (if_neg fun z => h2 z.1 z.2))
theorem ai_refat {A : aS} {n w : Nat} {v : Int32} (h : AI A) (n1 : 1 ≤ n) (n2 : n ≤ 16) (n3 : zE (aN A n) = true) (w1 : 1 ≤ w) (w8 : w ≤ 8) : AI (sp_refat A n w v).1 := by
  unfold sp_refat
  by_cases c : zL (aN A n) ≠ 0 ∨ ¬ sdN (aN A) (aQ A 0) (aQ A 1) (aQ A 3) n w v
  · rw [ch_pos c]; exact h
  · rw [ch_neg c]
    by_cases ok : rfo (aN A) (aR A) (kA A n w) (cA A n w v)
    · rw [ch_pos ok]
      have hs : sdN (aN A) (aQ A 0) (aQ A 1) (aQ A 3) n w v := Classical.byContradiction fun z => c (Or.inr z)
      obtain ⟨h1, h2, h3, h4, h5⟩ := h
      refine ⟨h1, h2, h3, ⟨h4.1, h4.2.1, by show aR A + 1 ≤ 48; have := ok.1.2; omega, h4.2.2.2⟩, ?_⟩
      show ∀ m, 1 ≤ m → m ≤ 16 → AN (rfN (aN A) n w v (kA A n w) (cA A n w v) (gA A w)) m
      obtain ⟨⟨l0, l7⟩, -, p3, -, -, t6, -⟩ := h5 n n1 n2 n3
      have tp := (t6 0 (by omega)).1
      have tq := (t6 1 (by omega)).1
      have kF : ∀ U, U ∈ kA A n w → tx_F U := rf_k_F tp tq (h2 0 (by omega)) (h2 1 (by omega)) h3
      have cF : ∀ U, U ∈ cA A n w v → tx_F U := rf_c_F tp tq (h2 0 (by omega)) (h2 1 (by omega)) h3 (fun z => ⟨(hs.1 z).1.1, (hs.1 z).1.2.1⟩)
      have kn' : (kA A n w).length = 2 * nkw w := rf_k_n w8
      have cn' : (cA A n w v).length = ncw w := rf_c_n
      have hr : 2 * nkw w + 2 * ctN (aN A) 16 ≤ 32 := by rw [← kn']; exact ok.1.1
      have hfr : 0 ≤ (if w = 8 then v else zF (aN A n)) ∧ (if w = 8 then v else zF (aN A n)) ≤ 7 := by
        by_cases w8' : w = 8
        · rw [if_pos w8']; exact fr_sub l0 l7 (hs.2.2.2 w8')
        · rw [if_neg w8']; exact ⟨l0, l7⟩
      have x1 : 3 ≤ w → (1 ≤ k1N (aN A) w ∧ k1N (aN A) w ≤ 16) ∧ ¬ zE (aN A (k1N (aN A) w)) = true := fun z => k1N_in w8 z hr
      have x2 : w = 3 ∨ w = 4 → (1 ≤ k2N (aN A) w ∧ k2N (aN A) w ≤ 16) ∧ ¬ zE (aN A (k2N (aN A) w)) = true ∧ k1N (aN A) w ≠ k2N (aN A) w := fun z => k2N_in z hr
      have y1 : 3 ≤ w → k1N (aN A) w ≠ n := fun z q => (x1 z).2 (q ▸ n3)
      have y2 : w = 3 ∨ w = 4 → k2N (aN A) w ≠ n := fun z q => (x2 z).2.1 (q ▸ n3)
      generalize hM : rfN (aN A) n w v (kA A n w) (cA A n w v) (gA A w) = M
      have hE : ∀ k, 1 ≤ k → k ≤ 16 → zE (aN A k) = true → zE (M k) = true ∧ zP (M k) = zP (aN A k) ∧ zR (M k) = zR (aN A k) := by
        intro k k1 k2 k3
        rw [← hM]
        by_cases hk : k = n
        · rw [hk, rfN_at]; exact ⟨n3, rfl, rfl⟩
        · rw [rfN_o hk (fun z q => (x1 z).2 (q ▸ k3)) (fun z q => (x2 z).2.1 (q ▸ k3))]; exact ⟨k3, rfl, rfl⟩
      have e1 : 3 ≤ w → M (k1N (aN A) w) = nwN (if w = 8 then v else zF (aN A n)) n (zR (aN A n) + 1) ((kA A n w).getD 0 []) ((kA A n w).getD 1 []) := fun z => by rw [← hM]; exact rfN_1 z (y1 z)
      have e2 : w = 3 ∨ w = 4 → M (k2N (aN A) w) = nwN (if w = 8 then v else zF (aN A n)) n (zR (aN A n) + 1) ((kA A n w).getD 2 []) ((kA A n w).getD 3 []) := fun z => by rw [← hM]; exact rfN_2 z (y2 z) (fun q => (x2 z).2.2 q.symm)
      have en : M n = atN (aN A n) w (k1N (aN A) w) (k2N (aN A) w) v (gA A w) (cA A n w v) := by rw [← hM]; exact rfN_at
      have hMn := hE n n1 n2 n3
      have nk1 : 3 ≤ w → 1 ≤ nkw w := fun z => by unfold nkw; split; omega; rw [if_pos (by omega)]; omega
      intro m m1 m2
      by_cases hm : m = n
      · subst hm
        unfold AN
        rw [en]
        intro _
        refine ⟨⟨l0, l7⟩, w8, ?_, ⟨fun z => ?_, fun z => if_neg (by have : w < 3 := z; omega)⟩, ⟨fun z => ?_, fun z => if_neg z⟩, fun i hi => ?_, fun z => ?_, fun z => ?_, fun z => by cases z⟩
        · rcases p3 with p3 | ⟨⟨b1, b2, b3⟩, b4⟩
          · exact Or.inl p3
          · have q := hE _ b1 b2 b3
            exact Or.inr ⟨⟨b1, b2, q.1⟩, by show zR (aN A m) = zR (M (zP (aN A m))) + 1; rw [q.2.2]; exact b4⟩
        · have z3 : 3 ≤ w := z
          show (1 ≤ k1N (aN A) w ∧ k1N (aN A) w ≤ 16 ∧ zE (M (k1N (aN A) w)) = true) ∧ zP (M (k1N (aN A) w)) = m
          rw [e1 z3]
          exact ⟨⟨(x1 z3).1.1, (x1 z3).1.2, rfl⟩, rfl⟩
        · have z3 : w = 3 ∨ w = 4 := z
          show (1 ≤ k2N (aN A) w ∧ k2N (aN A) w ≤ 16 ∧ zE (M (k2N (aN A) w)) = true) ∧ zP (M (k2N (aN A) w)) = m ∧ k1N (aN A) w ≠ k2N (aN A) w
          rw [e2 z3]
          exact ⟨⟨(x2 z3).1.1, (x2 z3).1.2, rfl⟩, rfl, (x2 z3).2.2⟩
        · show tx_F (if i < 2 then zT (aN A m) i else (cA A m w v).getD (i - 2) []) ∧ (if i < 2 then zT (aN A m) i else (cA A m w v).getD (i - 2) []).length ≤ 120
          by_cases i2 : i < 2
          · rw [if_pos i2]; exact t6 i (by omega)
          · rw [if_neg i2]
            have hi' : i < 2 + ncw w := hi
            exact ⟨cF _ (getD_mem (by omega)), ok.2.2 _ (getD_mem (by omega))⟩
        · have z2 : w = 2 := z
          obtain ⟨⟨v0, v2, -⟩, -⟩ := hs.1 z2
          obtain ⟨k, hk, rfl⟩ := nI_of2 (n := 2) (M := 2) rfl (Int32.not_lt.mpr v0) v2
          refine ⟨?_, ?_, ?_, ?_⟩
          · show (nI k).toNatClampNeg ≤ 2
            rw [nI_clamp (by omega)]; exact hk
          · show tx_T (rf_g w (aQ A 0) (aQ A 1) (aQ A 3))
            rw [show rf_g w (aQ A 0) (aQ A 1) (aQ A 3) = aQ A 3 from if_pos z2]; exact h3
          · show ¬ 122 ∈ rf_g w (aQ A 0) (aQ A 1) (aQ A 3)
            rw [show rf_g w (aQ A 0) (aQ A 1) (aQ A 3) = aQ A 3 from if_pos z2]; exact h4.1
          · show (rf_g w (aQ A 0) (aQ A 1) (aQ A 3)).length ≤ 120
            rw [show rf_g w (aQ A 0) (aQ A 1) (aQ A 3) = aQ A 3 from if_pos z2]
            have := h4.2.1 3 (by omega)
            omega
        · have z4 : w = 4 ∨ w = 5 := z
          show tx_F (rf_g w (aQ A 0) (aQ A 1) (aQ A 3)) ∧ (rf_g w (aQ A 0) (aQ A 1) (aQ A 3)).length ≤ 120
          have q0 := h4.2.1 0 (by omega)
          have q1 := h4.2.1 1 (by omega)
          rcases z4 with rfl | rfl
          · exact ⟨h2 0 (by omega), by show (aQ A 0).length ≤ 120; omega⟩
          · exact ⟨h2 1 (by omega), by show (aQ A 1).length ≤ 120; omega⟩
      · by_cases c1 : 3 ≤ w ∧ m = k1N (aN A) w
        · obtain ⟨z3, rfl⟩ := c1
          have := nk1 z3
          refine AN_nw (e1 z3) hfr.1 hfr.2 (Or.inr ⟨⟨n1, n2, hMn.1⟩, by rw [hMn.2.2]⟩) ⟨kF _ (getD_mem (by omega)), ok.2.1 _ (getD_mem (by omega))⟩ ⟨kF _ (getD_mem (by omega)), ok.2.1 _ (getD_mem (by omega))⟩
        · by_cases c2 : (w = 3 ∨ w = 4) ∧ m = k2N (aN A) w
          · obtain ⟨z3, rfl⟩ := c2
            have n2' : nkw w = 2 := if_pos z3
            refine AN_nw (e2 z3) hfr.1 hfr.2 (Or.inr ⟨⟨n1, n2, hMn.1⟩, by rw [hMn.2.2]⟩) ⟨kF _ (getD_mem (by omega)), ok.2.1 _ (getD_mem (by omega))⟩ ⟨kF _ (getD_mem (by omega)), ok.2.1 _ (getD_mem (by omega))⟩
          · exact AN_other (h5 m m1 m2) (by rw [← hM]; exact rfN_o hm (fun z q => c1 ⟨z, q⟩) (fun z q => c2 ⟨z, q⟩)) (fun k _ k1 k2 k3 => hE k k1 k2 k3)
    · rw [ch_neg ok]; exact h
theorem ai_refine {A : aS} {x y v : Int32} (h : AI A) : AI (sp_refine A x y v).1 := by
  unfold sp_refine
  by_cases c : nod (aN A) x ≠ 0 ∧ ∃ w, 1 ≤ w ∧ w ≤ 8 ∧ y = nI w
  · rw [ch_pos c]
    obtain ⟨c1, w, w1, w8, rfl⟩ := c
    obtain ⟨⟨n1, n2⟩, -, n3⟩ := nod_in c1
    rw [nI_clamp (by omega)]
    exact ai_refat h n1 n2 n3 w1 w8
  · rw [ch_neg c]; exact h
