/-! THE REFERENCE, 5: texts in its row of numbers. -/
/-- the text t lies at the place p -/
def tm_t (F : Nat → Nat → Int32) (p : Nat) (t : List Int32) : Prop := ∀ j c, t[j]? = some c → F 0 (p + j) = c
/-- a slot's text, a node's text (0 pre, 1 post, 2, 3 conditions) -/
def tm_s (F : Nat → Nat → Int32) (i : Nat) (t : List Int32) : Prop := tm_t F (9000 + 60 * i) t ∧ F 1 i = nI t.length ∧ t.length ≤ 60
def tm_n (F : Nat → Nat → Int32) (n w : Nat) (t : List Int32) : Prop := tm_t F (500 * n + 121 * w) t ∧ F 1 (4 + 4 * (n - 1) + w) = nI t.length ∧ t.length ≤ 120
/-- the o-th text that is being made: the first 121 characters of U -/
def tm_m (F : Nat → Nat → Int32) (o : Nat) (U : List Int32) : Prop := F 13 o = nI (min U.length 121) ∧ ∀ j c, j < 121 → U[j]? = some c → F 0 (9300 + 125 * o + j) = c
/-- only the o-th text that is being made has changed -/
def tm_fr (F F' : Nat → Nat → Int32) (o : Nat) : Prop := ∀ k j, (k ≠ 0 ∨ j < 9300 + 125 * o ∨ 9300 + 125 * o + 121 ≤ j) → (k ≠ 13 ∨ j ≠ o) → F' k j = F k j
theorem tm_fr.rf {F : Nat → Nat → Int32} {o : Nat} : tm_fr F F o := fun _ _ _ _ => rfl
theorem tm_fr.tr {F1 F2 F3 : Nat → Nat → Int32} {o : Nat} (a : tm_fr F1 F2 o) (b : tm_fr F2 F3 o) : tm_fr F1 F3 o := fun k j h1 h2 => (b k j h1 h2).trans (a k j h1 h2)
theorem tm_t.keep {F F' : Nat → Nat → Int32} {p : Nat} {t : List Int32} (h : tm_t F p t) (hk : ∀ j, j < t.length → F' 0 (p + j) = F 0 (p + j)) : tm_t F' p t := fun j c hj => (hk j (List.getElem?_eq_some_iff.mp hj).1).trans (h j c hj)
theorem tm_s.fr {F F' : Nat → Nat → Int32} {o i : Nat} {t : List Int32} (hf : tm_fr F F' o) (hi : i < 4) (h : tm_s F i t) : tm_s F' i t := ⟨h.1.keep (fun j hj => hf 0 _ (by have := h.2.2; omega) (Or.inl (by decide))), (hf 1 i (Or.inl (by decide)) (Or.inl (by decide))).trans h.2.1, h.2.2⟩
theorem tm_n.fr {F F' : Nat → Nat → Int32} {o n w : Nat} {t : List Int32} (hf : tm_fr F F' o) (hn : n ≤ 16) (hw : w ≤ 3) (h : tm_n F n w t) : tm_n F' n w t := ⟨h.1.keep (fun j hj => hf 0 _ (by have := h.2.2; omega) (Or.inl (by decide))), (hf 1 _ (Or.inl (by decide)) (Or.inl (by decide))).trans h.2.1, h.2.2⟩
theorem rm_cploop {G : ia_G} {h0 : ia_H} {d p q n : Nat} {F : Nat → Nat → Int32} {S : Nat → Int32} {t : List Int32} (hl : t.length = n) (hp : p + n ≤ 10600) (hq : q + n ≤ 10600) (hdj : q + n ≤ p ∨ p + n ≤ q) (ht : tm_t F p t) : ∀ (r i : Nat), i + r = n → ∀ (h : ia_H) (F1 : Nat → Nat → Int32), rm_X h0 h F1 S → (∀ j c, j < i → t[j]? = some c → F1 0 (q + j) = c) → (∀ k j, k ≠ 0 ∨ j < q ∨ q + n ≤ j → F1 k j = F k j) → ia_Sx pg G kk_M_copy d 0 0 3 [.ref 117, .int (nI p), .int (nI q), .int (nI n), .int (nI i)] [] h (fun rv h' => rv = none ∧ ∃ F', rm_X h0 h' F' S ∧ tm_t F' q t ∧ ∀ k j, k ≠ 0 ∨ j < q ∨ q + n ≤ j → F' k j = F k j) := by
  intro r
  induction r with
  | zero =>
    intro i hi h F1 hm h1 h2
    refine ia_go 3 rfl ?_
    rw [if_pos (show nI n ≤ nI i from nI_le (by omega) (by omega))]
    exact jd_rv0 rfl rfl rfl ⟨rfl, F1, hm, fun j c hj => h1 j c (by have := (List.getElem?_eq_some_iff.mp hj).1; omega) hj, h2⟩
  | succ r ih =>
    intro i hi h F1 hm h1 h2
    have hit : i < t.length := by omega
    refine ia_go 3 rfl ?_
    rw [if_neg (show ¬ nI n ≤ nI i from nI_ge (by omega) (by omega))]
    refine ia_go 1 rfl ?_
    refine ia_getf rfl hm.1.1 rfl ?_
    refine ia_go 4 rfl ?_
    refine ia_getf rfl hm.1.1 rfl ?_
    refine ia_go 3 rfl ?_
    rw [nI_add, nI_add]
    refine rm_ld (K := 0) rfl hm (by decide) rfl (show p + i < 10600 by omega) (by decide) ?_
    refine rm_st (K := 0) rfl hm (by decide) rfl (show q + i < 10600 by omega) (by decide) (fun h9 hm => ?_)
    refine ia_go 1 rfl ?_
    dsimp only [ia_s1, ia_s2, ia_cl, ia_D, List.getElem?_cons_zero, List.getElem?_cons_succ, List.set_cons_zero, List.set_cons_succ]
    refine ia_go 1 rfl ?_
    rw [show nI i + Int32.ofInt 1 = nI (i + 1) from nI_1 i]
    refine ih (i + 1) (by omega) _ _ hm (fun j c hj hc => ?_) (fun k j hk => ?_)
    · by_cases hji : j = i
      · subst hji
        rw [rm_uu, h2 0 (p + j) (by omega)]
        exact ht j c hc
      · rw [rm_un (by omega)]; exact h1 j c (by omega) hc
    · by_cases hk0 : k = 0
      · subst hk0
        rw [rm_un (by omega)]; exact h2 0 j hk
      · rw [rm_uk hk0]; exact h2 k j hk
theorem rm_copy {G : ia_G} {h0 : ia_H} {d p q : Nat} {F : Nat → Nat → Int32} {S : Nat → Int32} {t : List Int32} (hm0 : rm h0 F S) (hp : p + t.length ≤ 10600) (hq : q + t.length ≤ 10600) (hdj : q + t.length ≤ p ∨ p + t.length ≤ q) (ht : tm_t F p t) : ia_Cn pg G kk_M_copy d 0 0 [.ref 117, .int (nI p), .int (nI q), .int (nI t.length)] h0 (fun rv h' => rv = none ∧ ∃ F', rm_X h0 h' F' S ∧ tm_t F' q t ∧ ∀ k j, k ≠ 0 ∨ j < q ∨ q + t.length ≤ j → F' k j = F k j) := by
  refine jd_met (ls := [.ref 117, .int (nI p), .int (nI q), .int (nI t.length), .retAddr 0]) rfl rfl rfl ?_
  refine ia_go 2 rfl ?_
  dsimp only [ia_s1, ia_s2, ia_cl, ia_D, List.getElem?_cons_zero, List.getElem?_cons_succ, List.set_cons_zero, List.set_cons_succ]
  exact rm_cploop rfl hp hq hdj ht t.length 0 (by omega) h0 F hm0.X (fun j c hj => by omega) (fun _ _ _ => rfl)
theorem rm_mul60 (i : Nat) : (9000 : Int32) + 60 * nI i = nI (9000 + 60 * i) := by unfold nI; rw [Int32.ofNat_add, Int32.ofNat_mul]; rfl
theorem rm_holdloop {G : ia_G} {h0 : ia_H} {d i n : Nat} {F : Nat → Nat → Int32} {S : Nat → Int32} {z2 : Value} {t : List Int32} {Post : Option Value → ia_H → Prop} (hl : t.length = n) (hn : n ≤ 60) (hi4 : i < 4) (ht : tm_t F 10500 t) (kk : ∀ h' F' z4, rm_X h0 h' F' S → tm_t F' (9000 + 60 * i) t → (∀ k j, k ≠ 0 ∨ j < 9000 + 60 * i ∨ 9000 + 60 * i + n ≤ j → F' k j = F k j) → ia_Sx pg G kk_M_hold d 0 0 87 [.ref 117, .int (nI i), z2, .int (nI n), z4] [] h' Post) : ∀ (r m : Nat), m + r = n → ∀ (h : ia_H) (F1 : Nat → Nat → Int32), rm_X h0 h F1 S → (∀ j c, j < m → t[j]? = some c → F1 0 (9000 + 60 * i + j) = c) → (∀ k j, k ≠ 0 ∨ j < 9000 + 60 * i ∨ 9000 + 60 * i + n ≤ j → F1 k j = F k j) → ia_Sx pg G kk_M_hold d 0 0 48 [.ref 117, .int (nI i), z2, .int (nI n), .int (nI m)] [] h Post := by
  intro r
  induction r with
  | zero =>
    intro m hm1 h F1 hm h1 h2
    refine ia_go 3 rfl ?_
    rw [if_pos (show nI n ≤ nI m from nI_le (by omega) (by omega))]
    exact kk h F1 _ hm (fun j c hj => h1 j c (by have := (List.getElem?_eq_some_iff.mp hj).1; omega) hj) h2
  | succ r ih =>
    intro m hm1 h F1 hm h1 h2
    refine ia_go 3 rfl ?_
    rw [if_neg (show ¬ nI n ≤ nI m from nI_ge (by omega) (by omega))]
    refine ia_go 1 rfl ?_
    refine ia_getf rfl hm.1.1 rfl ?_
    refine ia_go 8 rfl ?_
    refine ia_getf rfl hm.1.1 rfl ?_
    refine ia_go 3 rfl ?_
    rw [rm_mul60, nI_add, show (10500 : Int32) + nI m = nI (10500 + m) from nI_add 10500 m]
    refine rm_ld (K := 0) rfl hm (by decide) rfl (show 10500 + m < 10600 by omega) (by decide) ?_
    refine rm_st (K := 0) rfl hm (by decide) rfl (show 9000 + 60 * i + m < 10600 by omega) (by decide) (fun h9 hm => ?_)
    refine ia_go 1 rfl ?_
    dsimp only [ia_s1, ia_s2, ia_cl, ia_D, List.getElem?_cons_zero, List.getElem?_cons_succ, List.set_cons_zero, List.set_cons_succ]
    refine ia_go 1 rfl ?_
    rw [show nI m + Int32.ofInt 1 = nI (m + 1) from nI_1 m]
    refine ih (m + 1) (by omega) _ _ hm (fun j c hj hc => ?_) (fun k j hk => ?_)
    · by_cases hjm : j = m
      · subst hjm
        rw [rm_uu, h2 0 (10500 + j) (by omega)]
        exact ht j c hc
      · rw [rm_un (by omega)]; exact h1 j c (by omega) hc
    · by_cases hk0 : k = 0
      · subst hk0
        rw [rm_un (by omega)]; exact h2 0 j hk
      · rw [rm_uk hk0]; exact h2 k j hk
/-- hold -/
theorem rm_hold {G : ia_G} {h0 : ia_H} {d : Nat} {s : Int32} {F : Nat → Nat → Int32} {S : Nat → Int32} {t : List Int32} (hd : 3 ≤ d) (hm0 : rm h0 F S) (ht : tm_t F 10500 t) (hS : S 0 = nI t.length) (hl : t.length ≤ 60) : ia_Cn pg G kk_M_hold d 0 0 [.ref 117, .int s] h0 (fun rv h' => ((¬ ∃ i, i < 4 ∧ s = nI i) ∧ rv = some (.int (-1)) ∧ h' = h0) ∨ ∃ i, i < 4 ∧ s = nI i ∧ ∃ F', rm_X h0 h' F' (rm_s S 0 0) ∧ ((∃ q, tx_w (if i = 3 then 1 else 0) (if i = 3 then 0 else 1) t = some q ∧ rv = some (.int (-100 - nI q)) ∧ ∀ k j, k ≠ 14 → F' k j = F k j) ∨ (tx_w (if i = 3 then 1 else 0) (if i = 3 then 0 else 1) t = none ∧ rv = some (.int (nI t.length)) ∧ tm_s F' i t ∧ ∀ k j, k ≠ 14 → (k ≠ 0 ∨ j < 9000 + 60 * i ∨ 9000 + 60 * i + t.length ≤ j) → (k ≠ 1 ∨ j ≠ i) → F' k j = F k j))) := by
  by_cases h1 : s < 0
  ·
    refine jd_met (ls := [.ref 117, .int s, .retAddr 0, .retAddr 0, .retAddr 0]) rfl rfl rfl ?_
    refine ia_go 2 rfl ?_
    rw [if_pos h1]
    refine ia_go 1 rfl ?_
    exact jd_rv1 rfl rfl rfl trivial (Or.inl ⟨by rintro ⟨i, hi, rfl⟩; exact absurd h1 (nI_pos (by omega)), rfl, rfl⟩)
  by_cases h2 : s ≤ 3
  case neg =>
    refine jd_met (ls := [.ref 117, .int s, .retAddr 0, .retAddr 0, .retAddr 0]) rfl rfl rfl ?_
    refine ia_go 2 rfl ?_
    rw [if_neg h1]
    refine ia_go 3 rfl ?_
    rw [if_neg h2]
    refine ia_go 1 rfl ?_
    exact jd_rv1 rfl rfl rfl trivial (Or.inl ⟨by rintro ⟨i, hi, rfl⟩; exact absurd (nI_le (b := 3) (by omega) (by omega)) h2, rfl, rfl⟩)
  obtain ⟨i, hi3, rfl⟩ := nI_of2 (M := 3) (n := 3) (by decide) h1 h2
  -- behind wrong
  have rest : ∀ (kd : Int32) (m f : Nat), m = (if i = 3 then 1 else 0) → f = (if i = 3 then 0 else 1) → ((kd = 1 ∧ m = 1 ∧ f = 0) ∨ (kd = 2 ∧ m = 0 ∧ f = 1)) → ia_Sx pg G kk_M_hold d 0 0 22 [.ref 117, .int (nI i), .retAddr 0, .retAddr 0, .retAddr 0] [.int kd, .ref 117] h0 (fun rv h' => ((¬ ∃ j, j < 4 ∧ nI i = nI j) ∧ rv = some (.int (-1)) ∧ h' = h0) ∨ ∃ j, j < 4 ∧ nI i = nI j ∧ ∃ F', rm_X h0 h' F' (rm_s S 0 0) ∧ ((∃ q, tx_w (if j = 3 then 1 else 0) (if j = 3 then 0 else 1) t = some q ∧ rv = some (.int (-100 - nI q)) ∧ ∀ k j, k ≠ 14 → F' k j = F k j) ∨ (tx_w (if j = 3 then 1 else 0) (if j = 3 then 0 else 1) t = none ∧ rv = some (.int (nI t.length)) ∧ tm_s F' j t ∧ ∀ k q, k ≠ 14 → (k ≠ 0 ∨ q < 9000 + 60 * j ∨ 9000 + 60 * j + t.length ≤ q) → (k ≠ 1 ∨ q ≠ j) → F' k q = F k q))) := by
    intro kd m f hm1 hf1 hkd
    subst hm1
    subst hf1
    refine jd_cV 117 [.int kd] [] 0 0 (d' := d - 1) rfl rfl rfl hm0.1 rfl rfl (by omega) (by omega) (by omega) (rm_wrong (by omega) hm0 hkd ht hS hl) ?_
    rintro rv h1 ⟨rfl, F1, hm, hF1⟩
    refine ia_go 1 rfl ?_
    dsimp only [ia_s1, ia_s2, ia_cl, ia_D, List.getElem?_cons_zero, List.getElem?_cons_succ, List.set_cons_zero, List.set_cons_succ]
    refine ia_go 1 rfl ?_
    refine ia_getf rfl hm.1.1 rfl ?_
    refine ia_go 1 rfl ?_
    dsimp only [ia_s1, ia_s2, ia_cl, ia_D, List.getElem?_cons_zero, List.getElem?_cons_succ, List.set_cons_zero, List.set_cons_succ]
    refine ia_go 2 rfl ?_
    rw [hS]
    refine rm_put (sk := 0) rfl hm rfl rfl (fun h2 hm => ?_)
    cases hw : tx_w (if i = 3 then 1 else 0) (if i = 3 then 0 else 1) t with
    | some q =>
      have hq : q ≤ 60 := by
        have key : ∀ (t : List Int32) (m f q : Nat), tx_w m f t = some q → q ≤ t.length := by
          intro t
          induction t with
          | nil => intro m f q h; unfold tx_w at h; split at h <;> cases h; exact Nat.zero_le _
          | cons c t ih =>
            intro m f q h
            have kk : ∀ (m f : Nat), (tx_w m f t).map (· + 1) = some q → q ≤ (c :: t).length := by
              intro m f h
              cases hz : tx_w m f t with
              | none => rw [hz] at h; cases h
              | some z => rw [hz] at h; cases h; have := ih m f z hz; simp; omega
            unfold tx_w at h
            split at h
            · split at h
              · exact kk _ _ h
              · split at h
                · exact kk _ _ h
                · cases h; exact Nat.zero_le _
            · split at h
              · cases h; exact Nat.zero_le _
              · split at h
                · exact kk _ _ h
                · split at h
                  · exact kk _ _ h
                  · split at h
                    · exact kk _ _ h
                    · split at h
                      · exact kk _ _ h
                      · cases h; exact Nat.zero_le _
        have := key t _ _ q hw
        omega
      refine ia_go 2 rfl ?_
      rw [if_neg (show ¬ rm_wr 0 (some q) < 0 from nI_pos (by omega))]
      refine ia_go 3 rfl ?_
      exact jd_rv1 rfl rfl rfl trivial (Or.inr ⟨i, by omega, rfl, F1, hm, Or.inl ⟨q, hw, by show some (Value.int (-100 - nI (0 + q))) = _; rw [Nat.zero_add], hF1⟩⟩)
    | none =>
      refine ia_go 2 rfl ?_
      rw [if_pos (show rm_wr 0 none < 0 by decide)]
      refine ia_go 2 rfl ?_
      dsimp only [ia_s1, ia_s2, ia_cl, ia_D, List.getElem?_cons_zero, List.getElem?_cons_succ, List.set_cons_zero, List.set_cons_succ]
      refine rm_holdloop (F := F1) (S := rm_s S 0 0) rfl hl (by omega) (ht.keep (fun j hj => hF1 0 _ (by decide))) (fun h3 F3 z4 hm3 ht3 hF3 => ?_) t.length 0 (by omega) h2 F1 hm (fun j c hj => by omega) (fun _ _ _ => rfl)
      refine ia_go 1 rfl ?_
      refine ia_getf rfl hm3.1.1 rfl ?_
      refine ia_go 2 rfl ?_
      refine rm_st (K := 1) rfl hm3 (by decide) rfl (show i < 70 by omega) (by decide) (fun h4 hm4 => ?_)
      refine ia_go 1 rfl ?_
      exact jd_rv1 rfl rfl rfl trivial (Or.inr ⟨i, by omega, rfl, _, hm4, Or.inr ⟨hw, rfl, ⟨ht3.keep (fun j hj => rfl), rm_uu, hl⟩, fun k j h14 hk0 hk1 => by
        by_cases hk : k = 1
        · subst hk
          rw [rm_un (by rcases hk1 with h | h; exact absurd rfl h; exact h), hF3 1 j (Or.inl (by decide))]
          exact hF1 1 j (by decide)
        · rw [rm_uk hk, hF3 k j hk0]
          exact hF1 k j h14⟩⟩)
  by_cases hi : i = 3
  ·
    refine jd_met (ls := [.ref 117, .int (nI i), .retAddr 0, .retAddr 0, .retAddr 0]) rfl rfl rfl ?_
    refine ia_go 2 rfl ?_
    rw [if_neg h1]
    refine ia_go 3 rfl ?_
    rw [if_pos h2]
    refine ia_go 4 rfl ?_
    rw [if_neg (show ¬ ¬ nI i = 3 from fun z => z (by rw [hi]; rfl))]
    refine ia_go 2 rfl ?_
    exact rest 1 _ _ rfl rfl (Or.inl ⟨rfl, by rw [if_pos hi], by rw [if_pos hi]⟩)
  ·
    refine jd_met (ls := [.ref 117, .int (nI i), .retAddr 0, .retAddr 0, .retAddr 0]) rfl rfl rfl ?_
    refine ia_go 2 rfl ?_
    rw [if_neg h1]
    refine ia_go 3 rfl ?_
    rw [if_pos h2]
    refine ia_go 4 rfl ?_
    rw [if_pos (show ¬ nI i = 3 from fun z => hi ((nI_eq (b := 3) (by omega) (by decide)).mp z))]
    refine ia_go 1 rfl ?_
    exact rest 2 _ _ rfl rfl (Or.inr ⟨rfl, by rw [if_neg hi], by rw [if_neg hi]⟩)
