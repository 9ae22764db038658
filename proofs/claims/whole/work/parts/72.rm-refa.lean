/-! THE REFERENCE, 13: refine, its pieces. -/
/-- the text that the program asks or assigns at a node -/
def tm_g (F : Nat → Nat → Int32) (n : Nat) (g : List Int32) : Prop := F 12 n = nI g.length ∧ g.length ≤ 60 ∧ ∀ j c, g[j]? = some c → F 11 (60 * n + j) = c
/-- node m is as it was -/
def sn (F F' : Nat → Nat → Int32) (m : Nat) : Prop := (∀ k, 2 ≤ k → k ≤ 10 → F' k m = F k m) ∧ (∀ w t, w ≤ 3 → tm_n F m w t → tm_n F' m w t) ∧ ∀ g, tm_g F m g → tm_g F' m g
/-- node n has its parent, frame, pre and post as they were -/
def sp (F F' : Nat → Nat → Int32) (n : Nat) : Prop := (∀ k, k = 2 ∨ k = 3 ∨ k = 7 ∨ k = 9 → F' k n = F k n) ∧ ∀ w t, w ≤ 1 → tm_n F n w t → tm_n F' n w t
/-- the slots, the buffer and the other rows are as they were -/
def sl (F F' : Nat → Nat → Int32) : Prop := (∀ i t, i < 4 → tm_s F i t → tm_s F' i t) ∧ (∀ j, 10500 ≤ j → F' 0 j = F 0 j) ∧ ∀ k j, 14 ≤ k → F' k j = F k j
def rfA (F F' : Nat → Nat → Int32) (n : Nat) (X : List Nat) : Prop := (∀ m, 1 ≤ m → m ≤ 16 → m ≠ n → ¬ m ∈ X → sn F F' m) ∧ sp F F' n ∧ sl F F'
theorem tm_n.keep {F F' : Nat → Nat → Int32} {n w : Nat} {t : List Int32} (h : tm_n F n w t) (h0 : ∀ j, j < 120 → F' 0 (500 * n + 121 * w + j) = F 0 (500 * n + 121 * w + j)) (h1 : F' 1 (4 + 4 * (n - 1) + w) = F 1 (4 + 4 * (n - 1) + w)) : tm_n F' n w t := ⟨h.1.keep (fun j hj => h0 j (by have := h.2.2; omega)), h1.trans h.2.1, h.2.2⟩
theorem tm_s.keep {F F' : Nat → Nat → Int32} {i : Nat} {t : List Int32} (h : tm_s F i t) (h0 : ∀ j, j < 60 → F' 0 (9000 + 60 * i + j) = F 0 (9000 + 60 * i + j)) (h1 : F' 1 i = F 1 i) : tm_s F' i t := ⟨h.1.keep (fun j hj => h0 j (by have := h.2.2; omega)), h1.trans h.2.1, h.2.2⟩
theorem tm_g.keep {F F' : Nat → Nat → Int32} {n : Nat} {g : List Int32} (h : tm_g F n g) (h0 : ∀ j, j < 60 → F' 11 (60 * n + j) = F 11 (60 * n + j)) (h1 : F' 12 n = F 12 n) : tm_g F' n g := ⟨h1.trans h.1, h.2.1, fun j c hj => (h0 j (by have := (List.getElem?_eq_some_iff.mp hj).1; have := h.2.1; omega)).trans (h.2.2 j c hj)⟩
theorem rfA.mk {F F' : Nat → Nat → Int32} {n : Nat} (hf : tm_F F F') (hn : n ≤ 16) : rfA F F' n [] := by
  refine ⟨fun m h1 h2 _ _ => ⟨fun k k1 k2 => hf k m (Or.inl (by omega)) (by omega), fun w t hw h => h.F hf h2 hw, fun g h => h.keep (fun j hj => hf 11 _ (Or.inl (by decide)) (by decide)) (hf 12 _ (Or.inl (by decide)) (by decide))⟩, ⟨fun k hk => hf k n (Or.inl (by omega)) (by omega), fun w t hw h => h.F hf hn (by omega)⟩, fun i t hi h => h.F hf hi, fun j hj => hf 0 j (by omega) (by decide), fun k j hk => hf k j (Or.inl (by omega)) (by omega)⟩
/-- the cells that a refinement of n changes -/
def rc (n k j : Nat) : Prop := (k = 0 ∧ 500 * n + 242 ≤ j ∧ j < 500 * n + 500) ∨ (k = 1 ∧ (j = 4 + 4 * (n - 1) + 2 ∨ j = 4 + 4 * (n - 1) + 3)) ∨ ((k = 4 ∨ k = 5 ∨ k = 6 ∨ k = 8 ∨ k = 10 ∨ k = 12) ∧ j = n) ∨ (k = 11 ∧ 60 * n ≤ j ∧ j < 60 * n + 60)
theorem rfA.at {F F1 F2 : Nat → Nat → Int32} {n : Nat} {X : List Nat} (h : rfA F F1 n X) (hn1 : 1 ≤ n) (hn : n ≤ 16) (hc : ∀ k j, ¬ rc n k j → F2 k j = F1 k j) : rfA F F2 n X := by
  obtain ⟨a1, ⟨a2, a3⟩, a4, a5, a6⟩ := h
  refine ⟨fun m h1 h2 h3 h4 => ?_, ⟨fun k hk => (hc k n (by unfold rc; omega)).trans (a2 k hk), fun w t hw h => (a3 w t hw h).keep (fun j hj => hc 0 _ (by unfold rc; omega)) (hc 1 _ (by unfold rc; omega))⟩, fun i t hi h => (a4 i t hi h).keep (fun j hj => hc 0 _ (by unfold rc; omega)) (hc 1 _ (by unfold rc; omega)), fun j hj => (hc 0 j (by unfold rc; omega)).trans (a5 j hj), fun k j hk => (hc k j (by unfold rc; omega)).trans (a6 k j hk)⟩
  obtain ⟨b1, b2, b3⟩ := a1 m h1 h2 h3 h4
  exact ⟨fun k k1 k2 => (hc k m (by unfold rc; omega)).trans (b1 k k1 k2), fun w t hw h => (b2 w t hw h).keep (fun j hj => hc 0 _ (by unfold rc; omega)) (hc 1 _ (by unfold rc; omega)), fun g h => (b3 g h).keep (fun j hj => hc 11 _ (by unfold rc; omega)) (hc 12 _ (by unfold rc; omega))⟩
theorem rfA.kid {F F1 F2 : Nat → Nat → Int32} {n N : Nat} {X : List Nat} {fr : Int32} {U0 U1 : List Int32} (h : rfA F F1 n X) (hn1 : 1 ≤ n) (hn : n ≤ 16) (hN1 : 1 ≤ N) (hN : N ≤ 16) (hne : n ≠ N) (hc : ch_R F1 F2 N fr n U0 U1) : rfA F F2 n (N :: X) := by
  obtain ⟨a1, ⟨a2, a3⟩, a4, a5, a6⟩ := h
  obtain ⟨-, -, -, hc⟩ := hc
  refine ⟨fun m h1 h2 h3 h4 => ?_, ⟨fun k hk => (hc k n (by omega) (by omega) (by omega)).trans (a2 k hk), fun w t hw h => (a3 w t hw h).keep (fun j hj => hc 0 _ (by omega) (by omega) (by omega)) (hc 1 _ (by omega) (by omega) (by omega))⟩, fun i t hi h => (a4 i t hi h).keep (fun j hj => hc 0 _ (by omega) (by omega) (by omega)) (hc 1 _ (by omega) (by omega) (by omega)), fun j hj => (hc 0 j (by omega) (by omega) (by omega)).trans (a5 j hj), fun k j hk => (hc k j (by omega) (by omega) (by omega)).trans (a6 k j hk)⟩
  have hmN : m ≠ N := fun z => h4 (by rw [z]; exact List.mem_cons_self)
  obtain ⟨b1, b2, b3⟩ := a1 m h1 h2 h3 (fun z => h4 (List.mem_cons_of_mem _ z))
  exact ⟨fun k k1 k2 => (hc k m (by omega) (by omega) (by omega)).trans (b1 k k1 k2), fun w t hw h => (b2 w t hw h).keep (fun j hj => hc 0 _ (by omega) (by omega) (by omega)) (hc 1 _ (by omega) (by omega) (by omega)), fun g h => (b3 g h).keep (fun j hj => hc 11 _ (by omega) (by omega) (by omega)) (hc 12 _ (by omega) (by omega) (by omega))⟩
/-- the least free number -/
def lf (F : Nat → Nat → Int32) (N : Nat) : Prop := 1 ≤ N ∧ N ≤ 16 ∧ F 2 N = 0 ∧ ∀ j, 1 ≤ j → j < N → F 2 j ≠ 0
theorem ct_full {F : Nat → Nat → Int32} {i : Nat} (h : ct F i = i) : ∀ j, 1 ≤ j → j ≤ i → F 2 j ≠ 0 := by
  induction i with
  | zero => intro j h1 h2; omega
  | succ i ih =>
    have h9 := ct_le F i
    unfold ct at h
    split at h
    · omega
    next hz =>
      intro j h1 h2
      rcases Nat.lt_or_ge i j with h3 | h3
      · obtain rfl : j = i + 1 := by omega
        exact hz
      · exact ih (by omega) j h1 h3
theorem ct_least {F : Nat → Nat → Int32} {i : Nat} (h : ct F i < i) : ∃ j, 1 ≤ j ∧ j ≤ i ∧ F 2 j = 0 ∧ ∀ k, 1 ≤ k → k < j → F 2 k ≠ 0 := by
  induction i with
  | zero => omega
  | succ i ih =>
    have h9 := ct_le F i
    by_cases h1 : ct F i < i
    · obtain ⟨j, a, b, c⟩ := ih h1
      exact ⟨j, a, by omega, c⟩
    · unfold ct at h
      split at h
      next hz => exact ⟨i + 1, by omega, by omega, hz, fun k k1 k2 => ct_full (F := F) (i := i) (by omega) k k1 (by omega)⟩
      · omega
theorem rm_gloop {G : ia_G} {h0 : ia_H} {d n s : Nat} {w v : Int32} {F : Nat → Nat → Int32} {S : Nat → Int32} {g : List Int32} {Post : Option Value → ia_H → Prop} (hn : n ≤ 16) (hs : s < 4) (hg : tm_s F s g) (kk : ∀ h' F', rm_X h0 h' F' S → (∀ j c, g[j]? = some c → F' 11 (60 * n + j) = c) → (∀ k j, k ≠ 11 ∨ j < 60 * n ∨ 60 * n + 60 ≤ j → F' k j = F k j) → ia_Sx pg G kk_M_refine d 0 0 155 [.ref 117, .int (nI n), .int w, .int v, .int (nI s), .int (nI g.length)] [] h' Post) : ∀ (r i : Nat), i + r = g.length → ∀ (h : ia_H) (F1 : Nat → Nat → Int32), rm_X h0 h F1 S → (∀ j c, j < i → g[j]? = some c → F1 11 (60 * n + j) = c) → (∀ k j, k ≠ 11 ∨ j < 60 * n ∨ 60 * n + 60 ≤ j → F1 k j = F k j) → ia_Sx pg G kk_M_refine d 0 0 108 [.ref 117, .int (nI n), .int w, .int v, .int (nI s), .int (nI i)] [] h Post := by
  have h60 : (60 : Int32) * nI n = nI (60 * n) := by unfold nI; rw [Int32.ofNat_mul]; rfl
  intro r
  induction r with
  | zero =>
    intro i hi h F1 hm h1 h2
    obtain rfl : i = g.length := by omega
    have hg1 : F1 1 s = nI g.length := (h2 1 s (Or.inl (by decide))).trans hg.2.1
    refine ia_go 2 rfl ?_
    refine ia_getf rfl hm.1.1 rfl ?_
    refine ia_go 1 rfl ?_
    refine rm_ld (K := 1) rfl hm (by decide) rfl (show s < 70 by omega) (by decide) ?_
    rw [hg1]
    refine ia_go 1 rfl ?_
    rw [if_pos (show nI g.length ≤ nI g.length from nI_le (by omega) (by have := hg.2.2; omega))]
    exact kk h F1 hm (fun j c hj => h1 j c (List.getElem?_eq_some_iff.mp hj).1 hj) h2
  | succ r ih =>
    intro i hi h F1 hm h1 h2
    have hg9 := hg.2.2
    have hit : i < g.length := by omega
    have hg1 : F1 1 s = nI g.length := (h2 1 s (Or.inl (by decide))).trans hg.2.1
    have hc : F1 0 (9000 + 60 * s + i) = g[i] := (h2 0 _ (Or.inl (by decide))).trans (hg.1 i _ (List.getElem?_eq_getElem hit))
    refine ia_go 2 rfl ?_
    refine ia_getf rfl hm.1.1 rfl ?_
    refine ia_go 1 rfl ?_
    refine rm_ld (K := 1) rfl hm (by decide) rfl (show s < 70 by omega) (by decide) ?_
    rw [hg1]
    refine ia_go 1 rfl ?_
    rw [if_neg (show ¬ nI g.length ≤ nI i from nI_ge (by omega) (by omega))]
    refine ia_go 1 rfl ?_
    refine ia_getf rfl hm.1.1 rfl ?_
    refine ia_go 6 rfl ?_
    refine ia_getf rfl hm.1.1 rfl ?_
    refine ia_go 7 rfl ?_
    rw [rm_mul60, nI_add, h60, nI_add]
    refine rm_ld (K := 0) rfl hm (by decide) rfl (show 9000 + 60 * s + i < 10600 by omega) (by decide) ?_
    rw [hc]
    refine rm_st (K := 11) rfl hm (by decide) rfl (show 60 * n + i < 1020 by omega) (by decide) (fun h9 hm => ?_)
    refine ia_go 1 rfl ?_
    dsimp only [ia_s1, ia_s2, ia_cl, ia_D, List.getElem?_cons_zero, List.getElem?_cons_succ, List.set_cons_zero, List.set_cons_succ]
    refine ia_go 1 rfl ?_
    rw [show nI i + Int32.ofInt 1 = nI (i + 1) from nI_1 i]
    refine ih (i + 1) (by omega) _ _ hm (fun j c hj hcc => ?_) (fun k j hk => ?_)
    · by_cases hji : j = i
      · subst hji
        rw [rm_uu]
        rw [List.getElem?_eq_getElem hit] at hcc
        exact Option.some.inj hcc
      · rw [rm_un (by omega)]; exact h1 j c (by omega) hcc
    · by_cases hk0 : k = 11
      · subst hk0
        rw [rm_un (by omega)]; exact h2 11 j hk
      · rw [rm_uk hk0]; exact h2 k j hk
/-- one condition is kept -/
theorem rm_cdstep {G : ia_G} {h0 h : ia_H} {d n i nc : Nat} {w v z : Int32} {F : Nat → Nat → Int32} {S : Nat → Int32} {U : List Int32} {Post : Option Value → ia_H → Prop} (hd : 1 ≤ d) (hm : rm_X h0 h F S) (hn1 : 1 ≤ n) (hn : n ≤ 16) (hS : S 2 = nI nc) (hc2 : nc ≤ 2) (hi : i < nc) (hU : tm_m F (4 + i) U) (hl : U.length ≤ 120) (kk : ∀ h' F', rm_X h0 h' F' S → tm_n F' n (2 + i) U → (∀ k j, (k ≠ 0 ∨ j < 500 * n + 121 * (2 + i) ∨ 500 * n + 121 * (2 + i) + 120 ≤ j) → (k ≠ 1 ∨ j ≠ 4 + 4 * (n - 1) + (2 + i)) → F' k j = F k j) → ia_Sx pg G kk_M_refine d 0 0 181 [.ref 117, .int (nI n), .int w, .int v, .int z, .int (nI (i + 1))] [] h' Post) : ia_Sx pg G kk_M_refine d 0 0 181 [.ref 117, .int (nI n), .int w, .int v, .int z, .int (nI i)] [] h Post := by
  obtain ⟨u1, u2⟩ := hU.len hl
  have h4 : (4 : Int32) + nI i = nI (4 + i) := nI_add 4 i
  have h2 : (2 : Int32) + nI i = nI (2 + i) := nI_add 2 i
  refine ia_go 2 rfl ?_
  refine ia_getf rfl hm.1.1 rfl ?_
  refine ia_go 1 rfl ?_
  rw [hS]
  rw [if_neg (show ¬ nI nc ≤ nI i from nI_ge hi (by omega))]
  refine ia_go 12 rfl ?_
  rw [h4, rm_mul125, h2]
  refine jd_cS [.int (nI n), .int (nI (2 + i))] [.int (nI (9300 + 125 * (4 + i))), .ref 117] 0 0 (d' := d - 1) rfl rfl rfl rfl rfl (by omega) (by omega) (by omega) (rm_placeOf) ?_
  rintro rv h' ⟨rfl, rfl⟩
  refine ia_go 1 rfl ?_
  refine ia_getf rfl hm.1.1 rfl ?_
  refine ia_go 3 rfl ?_
  rw [h4]
  refine rm_ld (K := 13) rfl hm (by decide) rfl (show 4 + i < 6 by omega) (by decide) ?_
  rw [u1]
  refine jd_cV 117 [.int (nI (9300 + 125 * (4 + i))), .int (nI (500 * n + 121 * (2 + i))), .int (nI U.length)] [] 0 0 (d' := d - 1) rfl rfl rfl hm.1.1 rfl rfl (by omega) (by omega) (by omega) (rm_copy hm.1 (by omega) (by omega) (by omega) u2) ?_
  rintro rv h1 ⟨rfl, F1, hm1, ht1, hF1⟩
  have hm := hm.tr hm1
  refine ia_go 1 rfl ?_
  refine ia_getf rfl hm.1.1 rfl ?_
  refine ia_go 4 rfl ?_
  rw [h2]
  refine jd_cS [.int (nI n), .int (nI (2 + i))] [.ref 119] 0 0 (d' := d - 1) rfl rfl rfl rfl rfl (by omega) (by omega) (by omega) (rm_lengthAt hn1) ?_
  rintro rv h' ⟨rfl, rfl⟩
  refine ia_go 1 rfl ?_
  refine ia_getf rfl hm.1.1 rfl ?_
  refine ia_go 3 rfl ?_
  rw [h4]
  refine rm_ld (K := 13) rfl hm (by decide) rfl (show 4 + i < 6 by omega) (by decide) ?_
  rw [hF1 13 _ (Or.inl (by decide)), u1]
  refine rm_st (K := 1) rfl hm (by decide) rfl (show 4 + 4 * (n - 1) + (2 + i) < 70 by omega) (by decide) (fun h9 hm => ?_)
  refine ia_go 1 rfl ?_
  dsimp only [ia_s1, ia_s2, ia_cl, ia_D, List.getElem?_cons_zero, List.getElem?_cons_succ, List.set_cons_zero, List.set_cons_succ]
  refine ia_go 1 rfl ?_
  rw [show nI i + Int32.ofInt 1 = nI (i + 1) from nI_1 i]
  refine kk _ _ hm ⟨ht1.keep (fun j hj => rfl), rm_uu, hl⟩ (fun k j hk0 hk1 => ?_)
  by_cases hk : k = 1
  · subst hk
    rw [rm_un (by rcases hk1 with h | h; exact absurd rfl h; omega)]
    exact hF1 1 j (Or.inl (by decide))
  · rw [rm_uk hk]
    exact hF1 k j (by omega)
