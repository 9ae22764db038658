/-! THE REFERENCE, 20: advance, isValid. -/
theorem nI_and7 {a : Nat} (h : a ≤ 7) : nI a + 1 &&& 7 = if a = 7 then 0 else nI (a + 1) := by
  have key : ∀ a : Fin 8, nI a.val + 1 &&& 7 = if a.val = 7 then 0 else nI (a.val + 1) := by decide
  exact key ⟨a, by omega⟩
def av_Q (h0 : ia_H) (F : Nat → Nat → Int32) (S : Nat → Int32) (t : List Int32) (D : Nat → Nat) (rv : Option Value) (h' : ia_H) : Prop := ∃ F', rm_X h0 h' F' S ∧ (∀ k j, k ≠ 16 → F' k j = F k j) ∧ ((rv = some (.int 1) ∧ ∃ D', dst F' D' ∧ nxs t D D') ∨ (rv = some (.int 0) ∧ ∀ E, d7 E → red t E → num E ≤ num D))
theorem rm_avloop {G : ia_G} {h0 : ia_H} {d p : Nat} {F : Nat → Nat → Int32} {S : Nat → Int32} {t : List Int32} {D : Nat → Nat} (hd : 1 ≤ d) (hp : p + t.length ≤ 10600) (ht : tm_t F p t) (hD : d7 D) (hr : red t D) : ∀ (i : Nat), i ≤ 5 → ∀ (h : ia_H) (F1 : Nat → Nat → Int32), rm_X h0 h F1 S → (∀ k j, k ≠ 16 → F1 k j = F k j) → dst F1 (fun j => if i ≤ j then 0 else D j) → (∀ j, i ≤ j → j < 5 → vch j ∈ t → D j = 7) → ∀ z4 : Value, (z4 = .retAddr 0 ∨ ∃ q, z4 = .int q) → ia_Sx pg G kk_M_advance d 0 0 2 [.ref 117, .int (nI p), .int (nI t.length), .int (nI i - 1), z4] [] h (av_Q h0 F S t D) := by
  intro i
  induction i with
  | zero =>
    intro hi h F1 hm hF hdst h7 z4 hz4
    refine ia_go 2 rfl ?_
    rw [if_pos (by decide)]
    refine ia_go 1 rfl ?_
    exact jd_rv1 rfl rfl rfl rfl ⟨F1, hm, hF, Or.inr ⟨rfl, nxs_no (fun j hj => h7 j (Nat.zero_le _) hj)⟩⟩
  | succ k ih =>
    intro hi h F1 hm hF hdst h7 z4 hz4
    have hdst' : ∀ j, j < 5 → F1 16 j = nI (if k + 1 ≤ j then 0 else D j) := hdst
    have hk : F1 16 k = nI (D k) := by
      rw [hdst' k (by omega), if_neg (by omega)]
    have hDk := hD k (by omega)
    rw [show nI (k + 1) - 1 = nI k from jd_sub (b := 1) (by omega)]
    have nxt : ∀ (h9 : ia_H) (F2 : Nat → Nat → Int32), rm_X h0 h9 F2 S → (∀ k j, k ≠ 16 → F2 k j = F k j) → dst F2 (fun j => if k ≤ j then 0 else D j) → (vch k ∈ t → D k = 7) → ia_Sx pg G kk_M_advance d 0 0 71 [.ref 117, .int (nI p), .int (nI t.length), .int (nI k), .int (vch k)] [] h9 (av_Q h0 F S t D) := by
      intro h9 F2 a1 a2 a3 a4
      refine ia_go 1 rfl ?_
      dsimp only [ia_s1, ia_s2, ia_cl, ia_D, List.getElem?_cons_zero, List.getElem?_cons_succ, List.set_cons_zero, List.set_cons_succ]
      refine ia_go 1 rfl ?_
      rw [show nI k + Int32.ofInt (-1) = nI k - 1 by rw [Int32.sub_eq_add_neg]; rfl]
      refine ih (by omega) h9 F2 a1 a2 a3 (fun j b1 b2 b3 => ?_) _ (Or.inr ⟨_, rfl⟩)
      by_cases hjk : j = k
      · subst hjk; exact a4 b3
      · exact h7 j (by omega) b2 b3
    have mid : ia_Sx pg G kk_M_advance d 0 0 32 [.ref 117, .int (nI p), .int (nI t.length), .int (nI k), .int (vch k)] [] h (av_Q h0 F S t D) := by
      refine ia_go 4 rfl ?_
      refine jd_cV 117 [.int (nI p), .int (nI t.length), .int (vch k)] [] 0 0 (d' := d - 1) rfl rfl rfl hm.1.1 rfl rfl (by omega) (by omega) (by omega) (rm_has hm.1 hp (ht.keep (fun j hj => hF 0 _ (by decide)))) ?_
      rintro rv h9 ⟨rfl, b, rfl, ⟨rfl, ho⟩ | ⟨rfl, ho⟩⟩
      ·
        refine ia_go 1 rfl ?_
        rw [if_neg (by decide)]
        refine ia_go 1 rfl ?_
        refine ia_getf rfl hm.1.1 rfl ?_
        refine ia_go 2 rfl ?_
        refine ia_getf rfl hm.1.1 rfl ?_
        refine ia_go 1 rfl ?_
        refine rm_ld (K := 16) rfl hm (by decide) rfl (show k < 5 by omega) (by decide) ?_
        rw [hk]
        refine ia_go 4 rfl ?_
        rw [nI_and7 hDk]
        refine rm_st (K := 16) rfl hm (by decide) rfl (show k < 5 by omega) (by decide) (fun h9 hm => ?_)
        refine ia_go 1 rfl ?_
        refine ia_getf rfl hm.1.1 rfl ?_
        refine ia_go 1 rfl ?_
        refine rm_ld (K := 16) rfl hm (by decide) rfl (show k < 5 by omega) (by decide) ?_
        rw [rm_uu]
        by_cases h77 : D k = 7
        · rw [if_pos h77] at hm
          rw [if_pos h77]
          refine ia_go 1 rfl ?_
          rw [if_pos (by decide)]
          refine nxt _ _ hm (fun q j hq => (rm_uk hq).trans (hF q j hq)) (fun j hj => ?_) (fun _ => h77)
          show _ = nI (if k ≤ j then 0 else D j)
          by_cases hjk : j = k
          · subst hjk; rw [rm_uu, if_pos (Nat.le_refl _)]; rfl
          · rw [rm_un hjk, hdst' j hj]
            by_cases hkj : k ≤ j
            · rw [if_pos hkj, if_pos (by omega)]
            · rw [if_neg hkj, if_neg (by omega)]
        · rw [if_neg h77] at hm
          rw [if_neg h77]
          have hfin : ∀ j, j < 5 → rm_u F1 16 k (nI (D k + 1)) 16 j = nI (if k < j then 0 else if j = k then D k + 1 else D j) := by
            intro j hj
            by_cases hjk : j = k
            · subst hjk; rw [rm_uu, if_neg (Nat.lt_irrefl _), if_pos rfl]
            · rw [rm_un hjk, hdst' j hj]
              by_cases hkj : k < j
              · rw [if_pos hkj, if_pos (by omega)]
              · rw [if_neg hkj, if_neg (by omega), if_neg hjk]
          refine ia_go 1 rfl ?_
          rw [if_neg (show ¬ nI (D k + 1) ≤ 0 from nI_ge (a := 0) (by omega) (by omega))]
          refine ia_go 1 rfl ?_
          exact jd_rv1 rfl rfl rfl rfl ⟨_, hm, fun q j hq => (rm_uk hq).trans (hF q j hq), Or.inl ⟨rfl, _, hfin, nxs_at (by omega) hD hr ho (by omega) (fun j b1 b2 b3 => h7 j (by omega) b2 b3)⟩⟩
      ·
        refine ia_go 1 rfl ?_
        rw [if_pos (by decide)]
        refine nxt _ _ hm hF (fun j hj => ?_) (fun z => absurd z ho)
        show _ = nI (if k ≤ j then 0 else D j)
        rw [hdst' j hj]
        by_cases hkj : k ≤ j
        · rw [if_pos hkj]
          by_cases hjk : k + 1 ≤ j
          · rw [if_pos hjk]
          · obtain rfl : j = k := by omega
            rw [if_neg hjk, hr j hj ho]
        · rw [if_neg hkj, if_neg (by omega)]
    rcases hz4 with rfl | ⟨q4, rfl⟩
    all_goals
      by_cases k3 : k < 3
      ·
        refine ia_go 2 rfl ?_
        rw [if_neg (show ¬ nI k < 0 from nI_pos (by omega))]
        refine ia_go 3 rfl ?_
        rw [if_neg (show ¬ (3 : Int32) ≤ nI k from nI_ge (b := 3) k3 (by omega))]
        refine ia_go 5 rfl ?_
        dsimp only [ia_s1, ia_s2, ia_cl, ia_D, List.getElem?_cons_zero, List.getElem?_cons_succ, List.set_cons_zero, List.set_cons_succ]
        rw [vch_lt k3]
        exact mid
      by_cases k4 : k = 3
      · subst k4
        refine ia_go 2 rfl ?_
        rw [if_neg (by decide)]
        refine ia_go 3 rfl ?_
        rw [if_pos (by decide)]
        refine ia_go 3 rfl ?_
        rw [if_neg (by decide)]
        refine ia_go 3 rfl ?_
        dsimp only [ia_s1, ia_s2, ia_cl, ia_D, List.getElem?_cons_zero, List.getElem?_cons_succ, List.set_cons_zero, List.set_cons_succ]
        exact mid
      · obtain rfl : k = 4 := by omega
        refine ia_go 2 rfl ?_
        rw [if_neg (by decide)]
        refine ia_go 3 rfl ?_
        rw [if_pos (by decide)]
        refine ia_go 3 rfl ?_
        rw [if_pos (by decide)]
        refine ia_go 2 rfl ?_
        dsimp only [ia_s1, ia_s2, ia_cl, ia_D, List.getElem?_cons_zero, List.getElem?_cons_succ, List.set_cons_zero, List.set_cons_succ]
        exact mid
theorem rm_advance {G : ia_G} {h0 : ia_H} {d p : Nat} {F : Nat → Nat → Int32} {S : Nat → Int32} {t : List Int32} {D : Nat → Nat} (hd : 1 ≤ d) (hm : rm h0 F S) (hp : p + t.length ≤ 10600) (ht : tm_t F p t) (hD : d7 D) (hr : red t D) (hdst : dst F D) : ia_Cn pg G kk_M_advance d 0 0 [.ref 117, .int (nI p), .int (nI t.length)] h0 (av_Q h0 F S t D) := by
  refine jd_met (ls := [.ref 117, .int (nI p), .int (nI t.length), .retAddr 0, .retAddr 0]) rfl rfl rfl ?_
  refine ia_go 2 rfl ?_
  dsimp only [ia_s1, ia_s2, ia_cl, ia_D, List.getElem?_cons_zero, List.getElem?_cons_succ, List.set_cons_zero, List.set_cons_succ]
  refine rm_avloop hd hp ht hD hr 5 (by omega) h0 F hm.X (fun _ _ _ => rfl) (fun j hj => ?_) (fun j h1 h2 => by omega) _ (Or.inl rfl)
  show _ = nI (if 5 ≤ j then 0 else D j)
  rw [if_neg (by omega)]
  exact hdst j hj
/-- the value at a state -/
def vl (D : Nat → Nat) (t : List Int32) : Int32 := tx_x (tx_g (nI (D 0)) (nI (D 1)) (nI (D 2)) (nI (D 3)) (nI (D 4))) t
theorem dst.g {F : Nat → Nat → Int32} {D : Nat → Nat} (h : dst F D) : gst F = tx_g (nI (D 0)) (nI (D 1)) (nI (D 2)) (nI (D 3)) (nI (D 4)) := by
  unfold gst
  rw [h 0 (by omega), h 1 (by omega), h 2 (by omega), h 3 (by omega), h 4 (by omega)]
theorem tx_v_ext {g g' : Int32 → Int32} {c : Int32} {st : List Int32} (h : g c = g' c) : tx_v g c st = tx_v g' c st := by
  unfold tx_v
  rw [h]
theorem tx_e_ext {g g' : Int32 → Int32} {t : List Int32} (h : ∀ c, c ∈ t → g c = g' c) : tx_e g t [] = tx_e g' t [] := by
  induction t with
  | nil => rfl
  | cons c t ih =>
    show tx_v g c (tx_e g t []) = tx_v g' c (tx_e g' t [])
    rw [ih (fun q hq => h q (List.mem_cons_of_mem _ hq)), tx_v_ext (h c List.mem_cons_self)]
/-- 0 at what does not occur -/
def rd (t : List Int32) (D : Nat → Nat) : Nat → Nat := fun j => if vch j ∈ t then D j else 0
theorem ite2 {b : Prop} [Decidable b] {x y x' y' : Int32} (h1 : b → x = x') (h2 : ¬ b → y = y') : (if b then x else y) = (if b then x' else y') := by
  by_cases h : b
  · rw [if_pos h, if_pos h]; exact h1 h
  · rw [if_neg h, if_neg h]; exact h2 h
theorem rd_at {t : List Int32} {D : Nat → Nat} {j : Nat} {c q : Int32} (hc : c ∈ t) (h : (c == q) = true) (e : vch j = q) : nI (rd t D j) = nI (D j) := by
  unfold rd
  rw [if_pos (by rw [e, ← eq_of_beq h]; exact hc)]
theorem vl_rd (t : List Int32) (D : Nat → Nat) : vl (rd t D) t = vl D t := by
  unfold vl tx_x
  rw [tx_e_ext (fun c hc => ?_)]
  unfold tx_g
  exact ite2 (fun h => rd_at hc h rfl) (fun _ => ite2 (fun h => rd_at hc h rfl) (fun _ => ite2 (fun h => rd_at hc h rfl) (fun _ => ite2 (fun h => rd_at hc h rfl) (fun _ => ite2 (fun h => rd_at hc h rfl) (fun _ => rfl)))))
theorem rd_le (t : List Int32) (D : Nat → Nat) (j : Nat) : rd t D j ≤ D j := by unfold rd; split; exact Nat.le_refl _; exact Nat.zero_le _
theorem rd_red (t : List Int32) (D : Nat → Nat) : red t (rd t D) := fun j _ hn => by unfold rd; rw [if_neg hn]
theorem rd_d7 {t : List Int32} {D : Nat → Nat} (h : d7 D) : d7 (rd t D) := fun j hj => Nat.le_trans (rd_le t D j) (h j hj)
theorem rd_num (t : List Int32) (D : Nat → Nat) : num (rd t D) ≤ num D := by
  have a0 := rd_le t D 0; have a1 := rd_le t D 1; have a2 := rd_le t D 2; have a3 := rd_le t D 3; have a4 := rd_le t D 4
  unfold num; omega
/-- the least state that refutes -/
def rfd (t : List Int32) (D : Nat → Nat) : Prop := d7 D ∧ vl D t = 0 ∧ ∀ E, d7 E → num E < num D → vl E t ≠ 0
def iv_Q (h0 : ia_H) (F : Nat → Nat → Int32) (S : Nat → Int32) (t : List Int32) (rv : Option Value) (h' : ia_H) : Prop := ∃ F' S', rm_X h0 h' F' S' ∧ (∀ k j, k ≠ 15 → k ≠ 16 → F' k j = F k j) ∧ (∀ k, k ≠ 7 → S' k = S k) ∧ ((rv = some (.int 0) ∧ ∃ D, dst F' D ∧ rfd t D) ∨ (rv = some (.int 1) ∧ ∀ E, d7 E → vl E t ≠ 0))
theorem rm_ivloop {G : ia_G} {h0 : ia_H} {d p : Nat} {z1 z2 : Int32} {x : Bool} {F : Nat → Nat → Int32} {S : Nat → Int32} {t : List Int32} (hd : 3 ≤ d) (hl : t.length ≤ 120) (hp : p + t.length ≤ 10600) (ht : tm_t F p t) (hty : tx_f t [] = some [x]) : ∀ (m : Nat) (D : Nat → Nat), 32768 ≤ num D + m → d7 D → red t D → (∀ E, d7 E → num E < num D → vl E t ≠ 0) → ∀ (h : ia_H) (F1 : Nat → Nat → Int32) (S1 : Nat → Int32), rm_X h0 h F1 S1 → (∀ k j, k ≠ 15 → k ≠ 16 → F1 k j = F k j) → (∀ k, k ≠ 7 → S1 k = S k) → dst F1 D → ia_Sx pg G kk_M_isValid d 0 0 48 [.ref 117, .int z1, .int z2, .int (nI p), .int (nI t.length), .int 1] [] h (iv_Q h0 F S t) := by
  intro m
  induction m with
  | zero =>
    intro D hm hD
    have a0 := hD 0 (by omega); have a1 := hD 1 (by omega); have a2 := hD 2 (by omega); have a3 := hD 3 (by omega); have a4 := hD 4 (by omega)
    unfold num at hm
    omega
  | succ m ih =>
    intro D hm1 hD hr hall h F1 S1 hm hF hS hdst
    have ht1 : tm_t F1 p t := ht.keep (fun j hj => hF 0 _ (by decide) (by decide))
    have hg : tx_x (gst F1) t = vl D t := by rw [hdst.g]; rfl
    refine ia_go 2 rfl ?_
    rw [if_neg (by decide)]
    refine ia_go 3 rfl ?_
    refine jd_cV 117 [.int (nI p), .int (nI t.length)] [] 0 0 (d' := d - 1) rfl rfl rfl hm.1.1 rfl rfl (by omega) (by omega) (by omega) (rm_worked (by omega) hm.1 hl hp ht1 hty) ?_
    rintro rv h2 ⟨rfl, F2, S2, hm2, hF2, hS2⟩
    rw [hg]
    have hm := hm.tr hm2
    have hdst2 : dst F2 D := fun j hj => (hF2 16 j (by decide)).trans (hdst j hj)
    by_cases hz : vl D t = 0
    ·
      refine ia_go 1 rfl ?_
      rw [if_neg (fun z => z hz)]
      refine ia_go 1 rfl ?_
      exact jd_rv1 rfl rfl rfl rfl ⟨F2, S2, hm, fun k j k1 k2 => (hF2 k j k1).trans (hF k j k1 k2), fun k hk => (hS2 k hk).trans (hS k hk), Or.inl ⟨rfl, D, hdst2, hD, hz, hall⟩⟩
    ·
      refine ia_go 1 rfl ?_
      rw [if_pos hz]
      refine ia_go 3 rfl ?_
      refine jd_cV 117 [.int (nI p), .int (nI t.length)] [] 0 0 (d' := d - 1) rfl rfl rfl hm.1.1 rfl rfl (by omega) (by omega) (by omega) (rm_advance (by omega) hm.1 hp (ht1.keep (fun j hj => hF2 0 _ (by decide))) hD hr hdst2) ?_
      rintro rv h3 ⟨F3, hm3, hF3, ⟨rfl, D', hdst3, n1, n2, n3, n4⟩ | ⟨rfl, hno⟩⟩
      ·
        refine ia_go 1 rfl ?_
        dsimp only [ia_s1, ia_s2, ia_cl, ia_D, List.getElem?_cons_zero, List.getElem?_cons_succ, List.set_cons_zero, List.set_cons_succ]
        refine ia_go 1 rfl ?_
        refine ih D' (by omega) n1 n2 (fun E hE hlt hv => ?_) h3 F3 S2 (hm.tr hm3) (fun k j k1 k2 => (hF3 k j k2).trans ((hF2 k j k1).trans (hF k j k1 k2))) (fun k hk => (hS2 k hk).trans (hS k hk)) hdst3
        rw [← vl_rd] at hv
        have h1 : num (rd t E) ≤ num E := rd_num t E
        rcases Nat.lt_or_ge (num (rd t E)) (num D) with h2 | h2
        · exact hall _ (rd_d7 hE) h2 hv
        · rcases Nat.lt_or_ge (num D) (num (rd t E)) with h3 | h3
          · have := n4 _ (rd_d7 hE) (rd_red t E) h3
            omega
          · have hee : num (rd t E) = num D := by omega
            have e : ∀ j, j < 5 → rd t E j = D j := by
              have b0 := hD 0 (by omega); have b1 := hD 1 (by omega); have b2 := hD 2 (by omega); have b3 := hD 3 (by omega); have b4 := hD 4 (by omega)
              have c0 := rd_d7 (t := t) hE 0 (by omega); have c1 := rd_d7 (t := t) hE 1 (by omega); have c2 := rd_d7 (t := t) hE 2 (by omega); have c3 := rd_d7 (t := t) hE 3 (by omega); have c4 := rd_d7 (t := t) hE 4 (by omega)
              unfold num at hee
              intro j hj
              have hjs : j = 0 ∨ j = 1 ∨ j = 2 ∨ j = 3 ∨ j = 4 := by omega
              rcases hjs with rfl | rfl | rfl | rfl | rfl <;> omega
            have : vl (rd t E) t = vl D t := by
              unfold vl
              rw [e 0 (by omega), e 1 (by omega), e 2 (by omega), e 3 (by omega), e 4 (by omega)]
            exact hz (this ▸ hv)
      ·
        refine ia_go 1 rfl ?_
        dsimp only [ia_s1, ia_s2, ia_cl, ia_D, List.getElem?_cons_zero, List.getElem?_cons_succ, List.set_cons_zero, List.set_cons_succ]
        refine ia_go 3 rfl ?_
        rw [if_pos (by decide)]
        refine ia_go 1 rfl ?_
        exact jd_rv1 rfl rfl rfl rfl ⟨F3, S2, hm.tr hm3, fun k j k1 k2 => (hF3 k j k2).trans ((hF2 k j k1).trans (hF k j k1 k2)), fun k hk => (hS2 k hk).trans (hS k hk), Or.inr ⟨rfl, fun E hE hv => by
          rw [← vl_rd] at hv
          have h2 := hno _ (rd_d7 hE) (rd_red t E)
          rcases Nat.lt_or_ge (num (rd t E)) (num D) with h3 | h3
          · exact hall _ (rd_d7 hE) h3 hv
          · have hee : num (rd t E) = num D := by omega
            have e : ∀ j, j < 5 → rd t E j = D j := by
              have b0 := hD 0 (by omega); have b1 := hD 1 (by omega); have b2 := hD 2 (by omega); have b3 := hD 3 (by omega); have b4 := hD 4 (by omega)
              have c0 := rd_d7 (t := t) hE 0 (by omega); have c1 := rd_d7 (t := t) hE 1 (by omega); have c2 := rd_d7 (t := t) hE 2 (by omega); have c3 := rd_d7 (t := t) hE 3 (by omega); have c4 := rd_d7 (t := t) hE 4 (by omega)
              unfold num at hee
              intro j hj
              have hjs : j = 0 ∨ j = 1 ∨ j = 2 ∨ j = 3 ∨ j = 4 := by omega
              rcases hjs with rfl | rfl | rfl | rfl | rfl <;> omega
            have : vl (rd t E) t = vl D t := by
              unfold vl
              rw [e 0 (by omega), e 1 (by omega), e 2 (by omega), e 3 (by omega), e 4 (by omega)]
            exact hz (this ▸ hv)⟩⟩
