/-! THE REFERENCE, 28: the program runs. -/
def kn (C : List (Nat × Nat × Nat)) (at' : Nat) : Nat × Nat × Nat := C.getD at' (4, 0, 0)
def rs (st : Nat → Int32) (g : List Int32) : Int32 := tx_x (tx_g (st 0) (st 1) (st 2) 0 0) g
def ra (C : List (Nat × Nat × Nat)) (gt : Nat → List Int32) (at' : Nat) (st : Nat → Int32) : Nat := if (kn C at').1 = 3 then (kn C at').2.1 else if (kn C at').1 = 2 ∧ rs st (gt (kn C at').2.2) = 0 then (kn C at').2.1 else at' + 1
def rt (C : List (Nat × Nat × Nat)) (gt : Nat → List Int32) (at' : Nat) (st : Nat → Int32) : Nat → Int32 := if (kn C at').1 = 1 then (fun j => if j = (kn C at').2.1 then rs st (gt (kn C at').2.2) else st j) else st
def rr (C : List (Nat × Nat × Nat)) (gt : Nat → List Int32) : Nat → Nat → (Nat → Int32) → Nat → Nat × Nat × (Nat → Int32)
  | 0, a, st, dn => (dn, a, st)
  | m + 1, a, st, dn => if (kn C a).1 = 4 then (dn, a, st) else rr C gt m (ra C gt a st) (rt C gt a st) (dn + 1)
/-- the program keeps within itself, and its texts are well-formed -/
def cw (F : Nat → Nat → Int32) (C : List (Nat × Nat × Nat)) (gt : Nat → List Int32) : Prop := C.length ≤ 80 ∧ ∀ a, a < C.length → (kn C a).1 = 4 ∨ ((kn C a).1 = 1 ∧ (kn C a).2.1 ≤ 2 ∧ a + 1 < C.length ∧ ((kn C a).2.2 ≤ 16 ∧ tm_g F (kn C a).2.2 (gt (kn C a).2.2) ∧ ∃ x, tx_f (gt (kn C a).2.2) [] = some [x])) ∨ ((kn C a).1 = 2 ∧ (kn C a).2.1 < C.length ∧ a + 1 < C.length ∧ ((kn C a).2.2 ≤ 16 ∧ tm_g F (kn C a).2.2 (gt (kn C a).2.2) ∧ ∃ x, tx_f (gt (kn C a).2.2) [] = some [x])) ∨ ((kn C a).1 = 3 ∧ (kn C a).2.1 < C.length)
def ri (h0 h : ia_H) (F : Nat → Nat → Int32) (S : Nat → Int32) (F1 : Nat → Nat → Int32) (st : Nat → Int32) : Prop := ∃ S1, rm_X h0 h F1 S1 ∧ (∀ k j, k ≠ 15 → k ≠ 16 → F1 k j = F k j) ∧ (∀ k, k ≠ 7 → S1 k = S k) ∧ (∀ j, j < 3 → F1 16 j = st j) ∧ F1 16 3 = 0 ∧ F1 16 4 = 0
theorem cr_kn {F : Nat → Nat → Int32} {C : List (Nat × Nat × Nat)} (h : cr F 0 C) {a : Nat} (ha : a < C.length) : F 18 a = nI (kn C a).1 ∧ F 19 a = nI (kn C a).2.1 ∧ F 20 a = nI (kn C a).2.2 := by
  have := h a _ (List.getElem?_eq_getElem ha)
  rw [Nat.zero_add] at this
  have e : kn C a = C[a] := by unfold kn; rw [List.getD_eq_getElem?_getD, List.getElem?_eq_getElem ha]; rfl
  rw [e]
  exact this
section RN
variable {G : ia_G} {h0 : ia_H} {d N : Nat} {va vb vc : Int32} {F : Nat → Nat → Int32} {S : Nat → Int32} {C : List (Nat × Nat × Nat)} {gt : Nat → List Int32}
theorem ri.g {h h0 : ia_H} {F1 : Nat → Nat → Int32} {st : Nat → Int32} (h1 : ri h0 h F S F1 st) : gst F1 = tx_g (st 0) (st 1) (st 2) 0 0 := by
  obtain ⟨S1, -, -, -, g4, g5, g6⟩ := h1
  unfold gst
  rw [g4 0 (by omega), g4 1 (by omega), g4 2 (by omega), g5, g6]
/-- a guard is worked out -/
theorem ri_guard {h : ia_H} {F1 : Nat → Nat → Int32} {st : Nat → Int32} {n : Nat} {g : List Int32} {x : Bool} (hd : 2 ≤ d) (h1 : ri h0 h F S F1 st) (hn : n ≤ 16) (hg : tm_g F n g) (hx : tx_f g [] = some [x]) : ia_Cn pg G kk_M_guard d 0 0 [.ref 117, .int (nI n)] h (fun rv h' => rv = some (.int (rs st g)) ∧ ∃ F2, ri h0 h' F S F2 st) := by
  have hgs := h1.g
  obtain ⟨S1, g1, g2, g3, g4, g5, g6⟩ := h1
  refine ia_Cn.mono (rm_guard hd g1.1 hn (hg.keep (fun j hj => g2 11 _ (by decide) (by decide)) (g2 12 _ (by decide) (by decide))) hx) ?_
  rintro rv h' ⟨rfl, F2, S2, a1, a2, a3⟩
  refine ⟨by rw [hgs]; rfl, F2, S2, g1.tr a1, fun k j k1 k2 => (a2 k j k1).trans (g2 k j k1 k2), fun k hk => (a3 k hk).trans (g3 k hk), fun j hj => (a2 16 j (by decide)).trans (g4 j hj), (a2 16 3 (by decide)).trans g5, (a2 16 4 (by decide)).trans g6⟩
theorem rm_rnloop {Post : Option Value → ia_H → Prop} {res : Nat × Nat × (Nat → Int32)} (hd : 3 ≤ d) (hN : N ≤ 1000) (hC : cr F 0 C) (hw : cw F C gt) (kk : ∀ (h' : ia_H) (F' : Nat → Nat → Int32) (z7 : Value), ri h0 h' F S F' res.2.2 → res.2.1 < C.length → (z7 = .retAddr 0 ∨ ∃ q, z7 = .int q) → ia_Sx pg G kk_M_run d 0 0 179 [.ref 117, .int va, .int vb, .int vc, .int (nI N), .int (nI res.2.1), .int (nI res.1), z7] [] h' Post) : ∀ (m a : Nat) (st : Nat → Int32) (dn : Nat), dn + m = N → a < C.length → rr C gt m a st dn = res → ∀ (h : ia_H) (F1 : Nat → Nat → Int32) (z7 : Value), ri h0 h F S F1 st → (z7 = .retAddr 0 ∨ ∃ q, z7 = .int q) → ia_Sx pg G kk_M_run d 0 0 75 [.ref 117, .int va, .int vb, .int vc, .int (nI N), .int (nI a), .int (nI dn), z7] [] h Post := by
  intro m
  induction m with
  | zero =>
    intro a st dn hdn ha hr h F1 z7 hri hz
    subst hr
    obtain rfl : dn = N := by omega
    refine ia_go 3 rfl ?_
    rw [if_pos (show nI dn ≤ nI dn from nI_le (by omega) (by omega))]
    exact kk h F1 z7 hri ha hz
  | succ m ih =>
    intro a st dn hdn ha hr h F1 z7 hri hz
    have hri0 := hri
    obtain ⟨S1, g1, g2, g3, g4, g5, g6⟩ := hri
    obtain ⟨c1, c2, c3⟩ := cr_kn hC ha
    have d1 : F1 18 a = nI (kn C a).1 := (g2 18 a (by decide) (by decide)).trans c1
    have d2 : F1 19 a = nI (kn C a).2.1 := (g2 19 a (by decide) (by decide)).trans c2
    have d3 : F1 20 a = nI (kn C a).2.2 := (g2 20 a (by decide) (by decide)).trans c3
    have ha80 : a < 80 := by have := hw.1; omega
    have hlt : ¬ nI N ≤ nI dn := nI_ge (by omega) (by omega)
    unfold rr at hr
    rcases hw.2 a ha with e4 | ⟨e1, e5, e6, e7, e8, x, e9⟩ | ⟨e2, e5, e6, e7, e8, x, e9⟩ | ⟨e3, e5⟩
    · rw [if_pos e4] at hr
      subst hr
      rw [e4] at d1
      refine ia_go 3 rfl ?_
      rw [if_neg hlt]
      refine ia_go 1 rfl ?_
      refine ia_getf rfl g1.1.1 rfl ?_
      refine ia_go 1 rfl ?_
      refine rm_ld (K := 18) rfl g1 (by decide) rfl (show a < 80 from ha80) (by decide) ?_
      rw [d1]
      refine ia_go 2 rfl ?_
      rw [if_pos (by decide)]
      exact kk h F1 z7 hri0 ha hz
    · rw [if_neg (by omega)] at hr
      rw [e1] at d1
      have hra : ra C gt a st = a + 1 := by unfold ra; rw [if_neg (by omega), if_neg (by omega)]
      have hrt : rt C gt a st = fun j => if j = (kn C a).2.1 then rs st (gt (kn C a).2.2) else st j := by unfold rt; rw [if_pos e1]
      rcases hz with rfl | ⟨q7, rfl⟩
      all_goals
        refine ia_go 3 rfl ?_
        rw [if_neg hlt]
        refine ia_go 1 rfl ?_
        refine ia_getf rfl g1.1.1 rfl ?_
        refine ia_go 1 rfl ?_
        refine rm_ld (K := 18) rfl g1 (by decide) rfl (show a < 80 from ha80) (by decide) ?_
        rw [d1]
        refine ia_go 2 rfl ?_
        rw [if_neg (by decide)]
        refine ia_go 1 rfl ?_
        refine ia_getf rfl g1.1.1 rfl ?_
        refine ia_go 1 rfl ?_
        refine rm_ld (K := 18) rfl g1 (by decide) rfl (show a < 80 from ha80) (by decide) ?_
        rw [d1]
        refine ia_go 1 rfl ?_
        dsimp only [ia_s1, ia_s2, ia_cl, ia_D, List.getElem?_cons_zero, List.getElem?_cons_succ, List.set_cons_zero, List.set_cons_succ]
        refine ia_go 3 rfl ?_
        rw [if_neg (by decide)]
        refine ia_go 1 rfl ?_
        refine ia_getf rfl g1.1.1 rfl ?_
        refine ia_go 1 rfl ?_
        refine ia_getf rfl g1.1.1 rfl ?_
        refine ia_go 1 rfl ?_
        refine rm_ld (K := 19) rfl g1 (by decide) rfl (show a < 80 from ha80) (by decide) ?_
        rw [d2]
        refine ia_go 2 rfl ?_
        refine ia_getf rfl g1.1.1 rfl ?_
        refine ia_go 1 rfl ?_
        refine rm_ld (K := 20) rfl g1 (by decide) rfl (show a < 80 from ha80) (by decide) ?_
        rw [d3]
        refine jd_cV 117 [.int (nI (kn C a).2.2)] [.int (nI (kn C a).2.1), .ref 134] 0 0 (d' := d - 1) rfl rfl rfl g1.1.1 rfl rfl (by omega) (by omega) (by omega) (ri_guard (by omega) hri0 e7 e8 e9) ?_
        rintro rv h2 ⟨rfl, F2, S2, b1, b2, b3, b4, b5, b6⟩
        refine rm_st (K := 16) rfl b1 (by decide) rfl (show (kn C a).2.1 < 5 by omega) (by decide) (fun h3 b1 => ?_)
        refine ia_go 3 rfl ?_
        rw [if_neg (by decide)]
        refine ia_go 3 rfl ?_
        rw [if_pos (by decide)]
        refine ia_go 4 rfl ?_
        dsimp only [ia_s1, ia_s2, ia_cl, ia_D, List.getElem?_cons_zero, List.getElem?_cons_succ, List.set_cons_zero, List.set_cons_succ]
        refine ia_go 1 rfl ?_
        dsimp only [ia_s1, ia_s2, ia_cl, ia_D, List.getElem?_cons_zero, List.getElem?_cons_succ, List.set_cons_zero, List.set_cons_succ]
        refine ia_go 1 rfl ?_
        rw [show nI dn + Int32.ofInt 1 = nI (dn + 1) from nI_1 dn, nI_1]
        refine ih (a + 1) _ (dn + 1) (by omega) e6 (by rw [← hra]; exact hr) h3 _ _ ⟨S2, b1, fun k j k1 k2 => (rm_uk k2).trans (b2 k j k1 k2), b3, fun j hj => ?_, (rm_un (by omega)).trans b5, (rm_un (by omega)).trans b6⟩ (Or.inr ⟨_, rfl⟩)
        rw [hrt]
        show _ = if j = (kn C a).2.1 then rs st (gt (kn C a).2.2) else st j
        by_cases hj9 : j = (kn C a).2.1
        · rw [hj9, rm_uu, if_pos rfl]
        · rw [rm_un hj9, if_neg hj9]; exact b4 j hj
    · rw [if_neg (by omega)] at hr
      rw [e2] at d1
      have hrt : rt C gt a st = st := by unfold rt; rw [if_neg (by omega)]
      rw [hrt] at hr
      by_cases hv : rs st (gt (kn C a).2.2) = 0
      · have hra : ra C gt a st = (kn C a).2.1 := by unfold ra; rw [if_neg (by omega), if_pos ⟨e2, hv⟩]
        rw [hra] at hr
        rcases hz with rfl | ⟨q7, rfl⟩
        all_goals
          refine ia_go 3 rfl ?_
          rw [if_neg hlt]
          refine ia_go 1 rfl ?_
          refine ia_getf rfl g1.1.1 rfl ?_
          refine ia_go 1 rfl ?_
          refine rm_ld (K := 18) rfl g1 (by decide) rfl (show a < 80 from ha80) (by decide) ?_
          rw [d1]
          refine ia_go 2 rfl ?_
          rw [if_neg (by decide)]
          refine ia_go 1 rfl ?_
          refine ia_getf rfl g1.1.1 rfl ?_
          refine ia_go 1 rfl ?_
          refine rm_ld (K := 18) rfl g1 (by decide) rfl (show a < 80 from ha80) (by decide) ?_
          rw [d1]
          refine ia_go 1 rfl ?_
          dsimp only [ia_s1, ia_s2, ia_cl, ia_D, List.getElem?_cons_zero, List.getElem?_cons_succ, List.set_cons_zero, List.set_cons_succ]
          refine ia_go 3 rfl ?_
          rw [if_pos (by decide)]
          refine ia_go 3 rfl ?_
          rw [if_neg (by decide)]
          refine ia_go 3 rfl ?_
          rw [if_neg (fun z => z rfl)]
          refine ia_go 2 rfl ?_
          refine ia_getf rfl g1.1.1 rfl ?_
          refine ia_go 1 rfl ?_
          refine rm_ld (K := 20) rfl g1 (by decide) rfl (show a < 80 from ha80) (by decide) ?_
          rw [d3]
          refine jd_cV 117 [.int (nI (kn C a).2.2)] [] 0 0 (d' := d - 1) rfl rfl rfl g1.1.1 rfl rfl (by omega) (by omega) (by omega) (ri_guard (by omega) hri0 e7 e8 e9) ?_
          rintro rv h2 ⟨rfl, F2, hri2⟩
          rw [hv]
          obtain ⟨S2, b1, b2, b3, b4, b5, b6⟩ := id hri2
          refine ia_go 1 rfl ?_
          rw [if_neg (fun z => z rfl)]
          refine ia_go 1 rfl ?_
          refine ia_getf rfl b1.1.1 rfl ?_
          refine ia_go 1 rfl ?_
          refine rm_ld (K := 19) rfl b1 (by decide) rfl (show a < 80 from ha80) (by decide) ?_
          rw [(b2 19 a (by decide) (by decide)).trans c2]
          refine ia_go 2 rfl ?_
          dsimp only [ia_s1, ia_s2, ia_cl, ia_D, List.getElem?_cons_zero, List.getElem?_cons_succ, List.set_cons_zero, List.set_cons_succ]
          refine ia_go 1 rfl ?_
          dsimp only [ia_s1, ia_s2, ia_cl, ia_D, List.getElem?_cons_zero, List.getElem?_cons_succ, List.set_cons_zero, List.set_cons_succ]
          refine ia_go 1 rfl ?_
          rw [show nI dn + Int32.ofInt 1 = nI (dn + 1) from nI_1 dn]
          exact ih _ st (dn + 1) (by omega) e5 hr h2 F2 _ hri2 (Or.inr ⟨_, rfl⟩)
      · have hra : ra C gt a st = a + 1 := by unfold ra; rw [if_neg (by omega), if_neg (fun z => hv z.2)]
        rw [hra] at hr
        rcases hz with rfl | ⟨q7, rfl⟩
        all_goals
          refine ia_go 3 rfl ?_
          rw [if_neg hlt]
          refine ia_go 1 rfl ?_
          refine ia_getf rfl g1.1.1 rfl ?_
          refine ia_go 1 rfl ?_
          refine rm_ld (K := 18) rfl g1 (by decide) rfl (show a < 80 from ha80) (by decide) ?_
          rw [d1]
          refine ia_go 2 rfl ?_
          rw [if_neg (by decide)]
          refine ia_go 1 rfl ?_
          refine ia_getf rfl g1.1.1 rfl ?_
          refine ia_go 1 rfl ?_
          refine rm_ld (K := 18) rfl g1 (by decide) rfl (show a < 80 from ha80) (by decide) ?_
          rw [d1]
          refine ia_go 1 rfl ?_
          dsimp only [ia_s1, ia_s2, ia_cl, ia_D, List.getElem?_cons_zero, List.getElem?_cons_succ, List.set_cons_zero, List.set_cons_succ]
          refine ia_go 3 rfl ?_
          rw [if_pos (by decide)]
          refine ia_go 3 rfl ?_
          rw [if_neg (by decide)]
          refine ia_go 3 rfl ?_
          rw [if_neg (fun z => z rfl)]
          refine ia_go 2 rfl ?_
          refine ia_getf rfl g1.1.1 rfl ?_
          refine ia_go 1 rfl ?_
          refine rm_ld (K := 20) rfl g1 (by decide) rfl (show a < 80 from ha80) (by decide) ?_
          rw [d3]
          refine jd_cV 117 [.int (nI (kn C a).2.2)] [] 0 0 (d' := d - 1) rfl rfl rfl g1.1.1 rfl rfl (by omega) (by omega) (by omega) (ri_guard (by omega) hri0 e7 e8 e9) ?_
          rintro rv h2 ⟨rfl, F2, hri2⟩
          refine ia_go 1 rfl ?_
          rw [if_pos hv]
          refine ia_go 4 rfl ?_
          dsimp only [ia_s1, ia_s2, ia_cl, ia_D, List.getElem?_cons_zero, List.getElem?_cons_succ, List.set_cons_zero, List.set_cons_succ]
          refine ia_go 1 rfl ?_
          dsimp only [ia_s1, ia_s2, ia_cl, ia_D, List.getElem?_cons_zero, List.getElem?_cons_succ, List.set_cons_zero, List.set_cons_succ]
          refine ia_go 1 rfl ?_
          rw [show nI dn + Int32.ofInt 1 = nI (dn + 1) from nI_1 dn, nI_1]
          exact ih _ st (dn + 1) (by omega) e6 hr h2 F2 _ hri2 (Or.inr ⟨_, rfl⟩)
    · rw [if_neg (by omega)] at hr
      rw [e3] at d1
      have hrt : rt C gt a st = st := by unfold rt; rw [if_neg (by omega)]
      have hra : ra C gt a st = (kn C a).2.1 := by unfold ra; rw [if_pos e3]
      rw [hrt, hra] at hr
      rcases hz with rfl | ⟨q7, rfl⟩
      all_goals
        refine ia_go 3 rfl ?_
        rw [if_neg hlt]
        refine ia_go 1 rfl ?_
        refine ia_getf rfl g1.1.1 rfl ?_
        refine ia_go 1 rfl ?_
        refine rm_ld (K := 18) rfl g1 (by decide) rfl (show a < 80 from ha80) (by decide) ?_
        rw [d1]
        refine ia_go 2 rfl ?_
        rw [if_neg (by decide)]
        refine ia_go 1 rfl ?_
        refine ia_getf rfl g1.1.1 rfl ?_
        refine ia_go 1 rfl ?_
        refine rm_ld (K := 18) rfl g1 (by decide) rfl (show a < 80 from ha80) (by decide) ?_
        rw [d1]
        refine ia_go 1 rfl ?_
        dsimp only [ia_s1, ia_s2, ia_cl, ia_D, List.getElem?_cons_zero, List.getElem?_cons_succ, List.set_cons_zero, List.set_cons_succ]
        refine ia_go 3 rfl ?_
        rw [if_pos (by decide)]
        refine ia_go 3 rfl ?_
        rw [if_pos (by decide)]
        refine ia_go 1 rfl ?_
        refine ia_getf rfl g1.1.1 rfl ?_
        refine ia_go 1 rfl ?_
        refine rm_ld (K := 19) rfl g1 (by decide) rfl (show a < 80 from ha80) (by decide) ?_
        rw [d2]
        refine ia_go 2 rfl ?_
        dsimp only [ia_s1, ia_s2, ia_cl, ia_D, List.getElem?_cons_zero, List.getElem?_cons_succ, List.set_cons_zero, List.set_cons_succ]
        refine ia_go 1 rfl ?_
        dsimp only [ia_s1, ia_s2, ia_cl, ia_D, List.getElem?_cons_zero, List.getElem?_cons_succ, List.set_cons_zero, List.set_cons_succ]
        refine ia_go 1 rfl ?_
        rw [show nI dn + Int32.ofInt 1 = nI (dn + 1) from nI_1 dn]
        exact ih _ st (dn + 1) (by omega) e5 hr h F1 _ hri0 (Or.inr ⟨_, rfl⟩)
end RN
