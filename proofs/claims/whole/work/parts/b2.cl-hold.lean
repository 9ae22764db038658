/-! THE CLASS, 3: hold. -/
theorem nI_dec {m : Nat} (h : 0 < m) : nI m + Int32.ofInt (-1) = nI (m - 1) := by
  obtain ⟨k, rfl⟩ : ∃ k, m = k + 1 := ⟨m - 1, by omega⟩
  rw [show nI (k + 1) + Int32.ofInt (-1) = nI (k + 1) - 1 by rw [Int32.sub_eq_add_neg]; rfl]
  exact nI_pred k
theorem cl_isT {G : ia_G} {h : ia_H} {d : Nat} {c : Int32} : ia_Cn pg G kk_R_isTermOperator d 0 0 [.int c] h (fun rv h' => rv = some (.int (if tx_o c = true then 1 else 0)) ∧ h' = h) := by
  by_cases h1 : c = 43
  · subst h1
    refine jd_met (ls := [.int 43]) rfl rfl rfl ?_
    refine ia_go 3 rfl ?_
    rw [if_pos (by exact rfl)]
    refine ia_go 2 rfl ?_
    exact jd_rv1 rfl rfl rfl rfl ⟨rfl, rfl⟩
  by_cases h2 : c = 45
  · subst h2
    refine jd_met (ls := [.int 45]) rfl rfl rfl ?_
    refine ia_go 3 rfl ?_
    rw [if_neg (by exact (by decide))]
    refine ia_go 3 rfl ?_
    rw [if_pos (by exact rfl)]
    refine ia_go 2 rfl ?_
    exact jd_rv1 rfl rfl rfl rfl ⟨rfl, rfl⟩
  by_cases h3 : c = 42
  · subst h3
    refine jd_met (ls := [.int 42]) rfl rfl rfl ?_
    refine ia_go 3 rfl ?_
    rw [if_neg (by exact (by decide))]
    refine ia_go 3 rfl ?_
    rw [if_neg (by exact (by decide))]
    refine ia_go 3 rfl ?_
    rw [if_neg (by exact (by decide))]
    refine ia_go 2 rfl ?_
    exact jd_rv1 rfl rfl rfl rfl ⟨rfl, rfl⟩
  · rw [if_neg (show ¬ tx_o c = true by simp [tx_o, h1, h2, h3])]
    refine jd_met (ls := [.int c]) rfl rfl rfl ?_
    refine ia_go 3 rfl ?_
    rw [if_neg (by exact h1)]
    refine ia_go 3 rfl ?_
    rw [if_neg (by exact h2)]
    refine ia_go 3 rfl ?_
    rw [if_pos (by exact h3)]
    refine ia_go 1 rfl ?_
    exact jd_rv1 rfl rfl rfl rfl ⟨rfl, rfl⟩
theorem cl_isN {G : ia_G} {h : ia_H} {d : Nat} {c : Int32} : ia_Cn pg G kk_R_isNumber d 0 0 [.int c] h (fun rv h' => rv = some (.int (if tx_n c = true then 1 else 0)) ∧ h' = h) := by
  have tail : ia_Sx pg G kk_R_isNumber d 0 0 12 [.int c] [] h (fun rv h' => rv = some (.int (if ((decide (97 ≤ c) && decide (c ≤ 99)) || c == 120) = true then 1 else 0)) ∧ h' = h) := by
    have tl2 : ia_Sx pg G kk_R_isNumber d 0 0 24 [.int c] [] h (fun rv h' => rv = some (.int (if c = 120 then 1 else 0)) ∧ h' = h) := by
      by_cases h5 : c = 120
      · rw [if_pos h5]
        refine ia_go 3 rfl ?_
        rw [if_neg (by exact (fun z => z h5))]
        refine ia_go 2 rfl ?_
        exact jd_rv1 rfl rfl rfl rfl ⟨rfl, rfl⟩
      · rw [if_neg h5]
        refine ia_go 3 rfl ?_
        rw [if_pos (by exact h5)]
        refine ia_go 1 rfl ?_
        exact jd_rv1 rfl rfl rfl rfl ⟨rfl, rfl⟩
    by_cases h3 : c < 97
    · rw [show (decide (97 ≤ c) && decide (c ≤ 99) || c == 120) = (c == 120) by rw [decide_eq_false (Int32.not_le.mpr h3)]; rfl]
      refine ia_go 3 rfl ?_
      rw [if_pos (by exact h3)]
      refine ia_Sx.mono tl2 (fun rv h' z => ⟨z.1.trans ?_, z.2⟩)
      by_cases h5 : c = 120 <;> simp [h5]
    by_cases h4 : c ≤ 99
    · rw [show (decide (97 ≤ c) && decide (c ≤ 99) || c == 120) = true by rw [decide_eq_true (Int32.not_lt.mp h3), decide_eq_true h4]; rfl]
      refine ia_go 3 rfl ?_
      rw [if_neg (by exact h3)]
      refine ia_go 3 rfl ?_
      rw [if_pos (by exact h4)]
      refine ia_go 2 rfl ?_
      exact jd_rv1 rfl rfl rfl rfl ⟨rfl, rfl⟩
    · rw [show (decide (97 ≤ c) && decide (c ≤ 99) || c == 120) = (c == 120) by rw [decide_eq_false h4, Bool.and_false]; rfl]
      refine ia_go 3 rfl ?_
      rw [if_neg (by exact h3)]
      refine ia_go 3 rfl ?_
      rw [if_neg (by exact h4)]
      refine ia_Sx.mono tl2 (fun rv h' z => ⟨z.1.trans ?_, z.2⟩)
      by_cases h5 : c = 120 <;> simp [h5]
  unfold tx_n
  by_cases h1 : c < 48
  · rw [show (decide (48 ≤ c) && decide (c ≤ 55) || (decide (97 ≤ c) && decide (c ≤ 99) || c == 120)) = (decide (97 ≤ c) && decide (c ≤ 99) || c == 120) by rw [decide_eq_false (Int32.not_le.mpr h1)]; rfl]
    refine jd_met (ls := [.int c]) rfl rfl rfl ?_
    refine ia_go 3 rfl ?_
    rw [if_pos (by exact h1)]
    exact tail
  by_cases h2 : c ≤ 55
  · rw [show (decide (48 ≤ c) && decide (c ≤ 55) || (decide (97 ≤ c) && decide (c ≤ 99) || c == 120)) = true by rw [decide_eq_true (Int32.not_lt.mp h1), decide_eq_true h2]; rfl]
    refine jd_met (ls := [.int c]) rfl rfl rfl ?_
    refine ia_go 3 rfl ?_
    rw [if_neg (by exact h1)]
    refine ia_go 3 rfl ?_
    rw [if_pos (by exact h2)]
    refine ia_go 2 rfl ?_
    exact jd_rv1 rfl rfl rfl rfl ⟨rfl, rfl⟩
  · rw [show (decide (48 ≤ c) && decide (c ≤ 55) || (decide (97 ≤ c) && decide (c ≤ 99) || c == 120)) = (decide (97 ≤ c) && decide (c ≤ 99) || c == 120) by rw [decide_eq_false h2, Bool.and_false]; rfl]
    refine jd_met (ls := [.int c]) rfl rfl rfl ?_
    refine ia_go 3 rfl ?_
    rw [if_neg (by exact h1)]
    refine ia_go 3 rfl ?_
    rw [if_neg (by exact h2)]
    exact tail
/-- what rightCharacters answers -/
def rcv (o : Option Nat) (i : Nat) : Int32 := match o with
  | some q => nI (i + q)
  | none => -1
theorem rcv_s (o : Option Nat) (i : Nat) : rcv (o.map (· + 1)) i = rcv o (i + 1) := by
  cases o with
  | none => rfl
  | some q => show nI (i + (q + 1)) = nI (i + 1 + q); congr 1; omega
theorem cl_rcloop {G : ia_G} {h : ia_H} {d a : Nat} {b : Int32} {t : List Int32} (hd : 4 ≤ d) (hT : sx_t h a t) : ∀ (r i m n : Nat), i + r = t.length → m ≤ i + 2 → n ≤ i + 1 → ∀ z5 : Value, ia_Sx pg G kk_R_rightCharacters d 0 0 23 [.ref a, .int b, .int (nI m), .int (nI n), .int (nI i), z5] [] h (fun rv h' => rv = some (.int (rcv (tx_w m n (t.drop i)) i)) ∧ h' = h) := by
  obtain ⟨v, rr, f, ha, hv, hf, hch, hl, p1, p2⟩ := id hT
  intro r
  induction r with
  | zero =>
    intro i m n hi hm hn z5
    obtain rfl : i = t.length := by omega
    rw [List.drop_length]
    by_cases m0 : 0 < m
    · rw [show tx_w m n [] = some 0 from if_pos (Or.inl m0)]
      refine ia_go 2 rfl ?_
      refine jd_cV a [] [.int (nI t.length)] 0 0 (d' := d - 1) rfl rfl rfl ha rfl rfl (by omega) (by omega) (by omega) (jd_slen (by omega) ha hv) ?_
      rintro rv h' ⟨rfl, hh⟩
      refine ia_go 1 rfl ?_
      subst hh
      rw [if_pos (by exact (Int32.le_refl _))]
      refine ia_go 2 rfl ?_
      rw [if_pos (by exact (nI_lt (a := 0) m0 (by omega)))]
      refine ia_go 1 rfl ?_
      refine jd_cV a [] [] 0 0 (d' := d - 1) rfl rfl rfl ha rfl rfl (by omega) (by omega) (by omega) (jd_slen (by omega) ha hv) ?_
      rintro rv h' ⟨rfl, hh⟩
      refine ia_go 1 rfl ?_
      subst hh
      exact jd_rv1 rfl rfl rfl trivial ⟨rfl, rfl⟩
    obtain rfl : m = 0 := by omega
    by_cases n0 : 0 < n
    · rw [show tx_w 0 n [] = some 0 from if_pos (Or.inr n0)]
      refine ia_go 2 rfl ?_
      refine jd_cV a [] [.int (nI t.length)] 0 0 (d' := d - 1) rfl rfl rfl ha rfl rfl (by omega) (by omega) (by omega) (jd_slen (by omega) ha hv) ?_
      rintro rv h' ⟨rfl, hh⟩
      refine ia_go 1 rfl ?_
      subst hh
      rw [if_pos (by exact (Int32.le_refl _))]
      refine ia_go 2 rfl ?_
      rw [if_neg (by exact (by decide))]
      refine ia_go 2 rfl ?_
      rw [if_neg (by exact (nI_nle n0 (by omega)))]
      refine ia_go 1 rfl ?_
      refine jd_cV a [] [] 0 0 (d' := d - 1) rfl rfl rfl ha rfl rfl (by omega) (by omega) (by omega) (jd_slen (by omega) ha hv) ?_
      rintro rv h' ⟨rfl, hh⟩
      refine ia_go 1 rfl ?_
      subst hh
      exact jd_rv1 rfl rfl rfl trivial ⟨rfl, rfl⟩
    · obtain rfl : n = 0 := by omega
      refine ia_go 2 rfl ?_
      refine jd_cV a [] [.int (nI t.length)] 0 0 (d' := d - 1) rfl rfl rfl ha rfl rfl (by omega) (by omega) (by omega) (jd_slen (by omega) ha hv) ?_
      rintro rv h' ⟨rfl, hh⟩
      refine ia_go 1 rfl ?_
      subst hh
      rw [if_pos (by exact (Int32.le_refl _))]
      refine ia_go 2 rfl ?_
      rw [if_neg (by exact (by decide))]
      refine ia_go 2 rfl ?_
      rw [if_pos (by exact (by decide))]
      refine ia_go 1 rfl ?_
      exact jd_rv1 rfl rfl rfl trivial ⟨rfl, rfl⟩
  | succ r ih =>
    intro i m n hi hm hn z5
    have hil : i < t.length := by omega
    have hci : t[i]? = some t[i] := List.getElem?_eq_getElem hil
    have hcc := hch _ (List.getElem_mem hil)
    have hdrop : t.drop i = t[i] :: t.drop (i + 1) := List.drop_eq_getElem_cons hil
    rw [hdrop]
    generalize t[i] = ch at hci hcc
    -- one turn
    have turn : ∀ (P : ia_Sx pg G kk_R_rightCharacters d 0 0 40 [.ref a, .int b, .int (nI m), .int (nI n), .int (nI i), .int ch] [] h (fun rv h' => rv = some (.int (rcv (tx_w m n (ch :: t.drop (i + 1))) i)) ∧ h' = h)), ia_Sx pg G kk_R_rightCharacters d 0 0 23 [.ref a, .int b, .int (nI m), .int (nI n), .int (nI i), z5] [] h (fun rv h' => rv = some (.int (rcv (tx_w m n (ch :: t.drop (i + 1))) i)) ∧ h' = h) := by
      intro P
      refine ia_go 2 rfl ?_
      refine jd_cV a [] [.int (nI i)] 0 0 (d' := d - 1) rfl rfl rfl ha rfl rfl (by omega) (by omega) (by omega) (jd_slen (by omega) ha hv) ?_
      rintro rv h' ⟨rfl, hh⟩
      refine ia_go 1 rfl ?_
      subst hh
      rw [if_neg (by exact (nI_ge hil (by omega)))]
      refine ia_go 2 rfl ?_
      refine jd_cV a [.int (nI i)] [] 0 0 (d' := d - 1) rfl rfl rfl ha rfl rfl (by omega) (by omega) (by omega) (jd_char (by omega) ha hv (by omega) hil (hf i ch hci) hcc.1 hcc.2) ?_
      rintro rv h' ⟨rfl, hh⟩
      subst hh
      refine ia_go 1 rfl ?_
      dsimp only [ia_s1, ia_s2, ia_cl, ia_D, List.getElem?_cons_zero, List.getElem?_cons_succ, List.set_cons_zero, List.set_cons_succ]
      exact P
    have go : ∀ (m' n' : Nat), m' ≤ i + 1 + 2 → n' ≤ i + 1 + 1 → tx_w m n (ch :: t.drop (i + 1)) = (tx_w m' n' (t.drop (i + 1))).map (· + 1) → ia_Sx pg G kk_R_rightCharacters d 0 0 159 [.ref a, .int b, .int (nI m'), .int (nI n'), .int (nI i), .int ch] [] h (fun rv h' => rv = some (.int (rcv (tx_w m n (ch :: t.drop (i + 1))) i)) ∧ h' = h) := by
      intro m' n' hm' hn' e
      rw [e, rcv_s]
      refine ia_go 1 rfl ?_
      dsimp only [ia_s1, ia_s2, ia_cl, ia_D, List.getElem?_cons_zero, List.getElem?_cons_succ, List.set_cons_zero, List.set_cons_succ]
      refine ia_go 1 rfl ?_
      rw [show nI i + Int32.ofInt 1 = nI (i + 1) from nI_1 i]
      exact ih (i + 1) m' n' (by omega) hm' hn' _
    refine turn ?_
    by_cases m0 : 0 < m
    · have hmp : ¬ nI m ≤ 0 := nI_nle m0 (by omega)
      by_cases o : tx_o ch = true
      ·
        refine ia_go 2 rfl ?_
        rw [if_neg (by exact hmp)]
        refine ia_go 1 rfl ?_
        refine jd_cS [.int ch] [] 0 0 (d' := d - 1) rfl rfl rfl rfl rfl (by omega) (by omega) (by omega) (cl_isT) ?_
        rintro rv h' ⟨rfl, hh⟩
        refine ia_go 1 rfl ?_
        subst hh
        rw [if_pos o]
        rw [if_neg (by exact (by decide))]
        refine ia_go 1 rfl ?_
        dsimp only [ia_s1, ia_s2, ia_cl, ia_D, List.getElem?_cons_zero, List.getElem?_cons_succ, List.set_cons_zero, List.set_cons_succ]
        refine ia_go 1 rfl ?_
        rw [show nI m + Int32.ofInt 1 = nI (m + 1) from nI_1 m]
        exact go (m + 1) n (by omega) (by omega) (by show (if 0 < m then _ else _) = _; rw [if_pos m0, if_pos o])
      by_cases q : tx_n ch = true
      ·
        refine ia_go 2 rfl ?_
        rw [if_neg (by exact hmp)]
        refine ia_go 1 rfl ?_
        refine jd_cS [.int ch] [] 0 0 (d' := d - 1) rfl rfl rfl rfl rfl (by omega) (by omega) (by omega) (cl_isT) ?_
        rintro rv h' ⟨rfl, hh⟩
        refine ia_go 1 rfl ?_
        subst hh
        rw [if_neg o]
        rw [if_pos (by exact rfl)]
        refine ia_go 2 rfl ?_
        rw [if_neg (by exact hmp)]
        refine ia_go 1 rfl ?_
        refine jd_cS [.int ch] [] 0 0 (d' := d - 1) rfl rfl rfl rfl rfl (by omega) (by omega) (by omega) (cl_isN) ?_
        rintro rv h' ⟨rfl, hh⟩
        refine ia_go 1 rfl ?_
        subst hh
        rw [if_pos q]
        rw [if_neg (by exact (by decide))]
        refine ia_go 1 rfl ?_
        dsimp only [ia_s1, ia_s2, ia_cl, ia_D, List.getElem?_cons_zero, List.getElem?_cons_succ, List.set_cons_zero, List.set_cons_succ]
        refine ia_go 1 rfl ?_
        rw [nI_dec (show 0 < m by omega)]
        exact go (m - 1) n (by omega) (by omega) (by show (if 0 < m then _ else _) = _; rw [if_pos m0, if_neg o, if_pos q])
      · rw [show tx_w m n (ch :: t.drop (i + 1)) = some 0 by show (if 0 < m then _ else _) = _; rw [if_pos m0, if_neg o, if_neg q]]
        refine ia_go 2 rfl ?_
        rw [if_neg (by exact hmp)]
        refine ia_go 1 rfl ?_
        refine jd_cS [.int ch] [] 0 0 (d' := d - 1) rfl rfl rfl rfl rfl (by omega) (by omega) (by omega) (cl_isT) ?_
        rintro rv h' ⟨rfl, hh⟩
        refine ia_go 1 rfl ?_
        subst hh
        rw [if_neg o]
        rw [if_pos (by exact rfl)]
        refine ia_go 2 rfl ?_
        rw [if_neg (by exact hmp)]
        refine ia_go 1 rfl ?_
        refine jd_cS [.int ch] [] 0 0 (d' := d - 1) rfl rfl rfl rfl rfl (by omega) (by omega) (by omega) (cl_isN) ?_
        rintro rv h' ⟨rfl, hh⟩
        refine ia_go 1 rfl ?_
        subst hh
        rw [if_neg q]
        rw [if_pos (by exact rfl)]
        refine ia_go 2 rfl ?_
        rw [if_pos (by exact (Int32.not_le.mp hmp))]
        refine ia_go 1 rfl ?_
        exact jd_rv1 rfl rfl rfl trivial ⟨rfl, rfl⟩
    · obtain rfl : m = 0 := by omega
      have e0 : ∀ X Y : Option Nat, (if 0 < 0 then X else Y) = Y := fun X Y => if_neg (by omega)
      by_cases n0 : n = 0
      · subst n0
        rw [show tx_w 0 0 (ch :: t.drop (i + 1)) = some 0 from rfl]
        refine ia_go 2 rfl ?_
        rw [if_pos (by exact (by decide))]
        refine ia_go 2 rfl ?_
        rw [if_pos (by exact (by decide))]
        refine ia_go 2 rfl ?_
        rw [if_neg (by exact (by decide))]
        refine ia_go 2 rfl ?_
        rw [if_neg (by exact (fun z => z rfl))]
        refine ia_go 1 rfl ?_
        exact jd_rv1 rfl rfl rfl trivial ⟨rfl, rfl⟩
      have hn0 : ¬ nI n = 0 := nI_ne0 (by omega) (by omega)
      have ew : ∀ Z, tx_w 0 n (ch :: t.drop (i + 1)) = Z ↔ (if tx_q ch = true then (tx_w 2 (n - 1) (t.drop (i + 1))).map (· + 1) else if tx_b ch = true then (tx_w 0 (n + 1) (t.drop (i + 1))).map (· + 1) else if (ch == 84) = true then (tx_w 0 (n - 1) (t.drop (i + 1))).map (· + 1) else if (ch == 33) = true then (tx_w 0 n (t.drop (i + 1))).map (· + 1) else some 0) = Z := by
        intro Z
        rw [show tx_w 0 n (ch :: t.drop (i + 1)) = (if n = 0 then some 0 else if tx_q ch = true then (tx_w 2 (n - 1) (t.drop (i + 1))).map (· + 1) else if tx_b ch = true then (tx_w 0 (n + 1) (t.drop (i + 1))).map (· + 1) else if (ch == 84) = true then (tx_w 0 (n - 1) (t.drop (i + 1))).map (· + 1) else if (ch == 33) = true then (tx_w 0 n (t.drop (i + 1))).map (· + 1) else some 0) from if_neg (by omega), if_neg n0]
      by_cases c61 : ch = 61
      · subst c61
        refine ia_go 2 rfl ?_
        rw [if_pos (by exact (by decide))]
        refine ia_go 2 rfl ?_
        rw [if_pos (by exact (by decide))]
        refine ia_go 2 rfl ?_
        rw [if_neg (by exact (by decide))]
        refine ia_go 2 rfl ?_
        rw [if_pos (by exact hn0)]
        refine ia_go 3 rfl ?_
        rw [if_pos (by exact rfl)]
        refine ia_go 1 rfl ?_
        dsimp only [ia_s1, ia_s2, ia_cl, ia_D, List.getElem?_cons_zero, List.getElem?_cons_succ, List.set_cons_zero, List.set_cons_succ]
        refine ia_go 2 rfl ?_
        dsimp only [ia_s1, ia_s2, ia_cl, ia_D, List.getElem?_cons_zero, List.getElem?_cons_succ, List.set_cons_zero, List.set_cons_succ]
        refine ia_go 1 rfl ?_
        rw [nI_dec (show 0 < n by omega)]
        exact go 2 (n - 1) (by omega) (by omega) ((ew _).mpr rfl)
      by_cases c60 : ch = 60
      · subst c60
        refine ia_go 2 rfl ?_
        rw [if_pos (by exact (by decide))]
        refine ia_go 2 rfl ?_
        rw [if_pos (by exact (by decide))]
        refine ia_go 2 rfl ?_
        rw [if_neg (by exact (by decide))]
        refine ia_go 2 rfl ?_
        rw [if_pos (by exact hn0)]
        refine ia_go 3 rfl ?_
        rw [if_neg (by exact (by decide))]
        refine ia_go 3 rfl ?_
        rw [if_neg (by exact (by decide))]
        refine ia_go 1 rfl ?_
        dsimp only [ia_s1, ia_s2, ia_cl, ia_D, List.getElem?_cons_zero, List.getElem?_cons_succ, List.set_cons_zero, List.set_cons_succ]
        refine ia_go 2 rfl ?_
        dsimp only [ia_s1, ia_s2, ia_cl, ia_D, List.getElem?_cons_zero, List.getElem?_cons_succ, List.set_cons_zero, List.set_cons_succ]
        refine ia_go 1 rfl ?_
        rw [nI_dec (show 0 < n by omega)]
        exact go 2 (n - 1) (by omega) (by omega) ((ew _).mpr rfl)
      have nq : ¬ tx_q ch = true := by simp [tx_q, c61, c60]
      by_cases c38 : ch = 38
      · subst c38
        refine ia_go 2 rfl ?_
        rw [if_pos (by exact (by decide))]
        refine ia_go 2 rfl ?_
        rw [if_pos (by exact (by decide))]
        refine ia_go 2 rfl ?_
        rw [if_neg (by exact (by decide))]
        refine ia_go 2 rfl ?_
        rw [if_pos (by exact hn0)]
        refine ia_go 3 rfl ?_
        rw [if_neg (by exact (by decide))]
        refine ia_go 3 rfl ?_
        rw [if_pos (by exact (by decide))]
        refine ia_go 3 rfl ?_
        rw [if_pos (by exact rfl)]
        refine ia_go 1 rfl ?_
        dsimp only [ia_s1, ia_s2, ia_cl, ia_D, List.getElem?_cons_zero, List.getElem?_cons_succ, List.set_cons_zero, List.set_cons_succ]
        refine ia_go 1 rfl ?_
        rw [show nI n + Int32.ofInt 1 = nI (n + 1) from nI_1 n]
        exact go 0 (n + 1) (by omega) (by omega) ((ew _).mpr rfl)
      by_cases c124 : ch = 124
      · subst c124
        refine ia_go 2 rfl ?_
        rw [if_pos (by exact (by decide))]
        refine ia_go 2 rfl ?_
        rw [if_pos (by exact (by decide))]
        refine ia_go 2 rfl ?_
        rw [if_neg (by exact (by decide))]
        refine ia_go 2 rfl ?_
        rw [if_pos (by exact hn0)]
        refine ia_go 3 rfl ?_
        rw [if_neg (by exact (by decide))]
        refine ia_go 3 rfl ?_
        rw [if_pos (by exact (by decide))]
        refine ia_go 3 rfl ?_
        rw [if_neg (by exact (by decide))]
        refine ia_go 3 rfl ?_
        rw [if_pos (by exact rfl)]
        refine ia_go 1 rfl ?_
        dsimp only [ia_s1, ia_s2, ia_cl, ia_D, List.getElem?_cons_zero, List.getElem?_cons_succ, List.set_cons_zero, List.set_cons_succ]
        refine ia_go 1 rfl ?_
        rw [show nI n + Int32.ofInt 1 = nI (n + 1) from nI_1 n]
        exact go 0 (n + 1) (by omega) (by omega) ((ew _).mpr rfl)
      by_cases c62 : ch = 62
      · subst c62
        refine ia_go 2 rfl ?_
        rw [if_pos (by exact (by decide))]
        refine ia_go 2 rfl ?_
        rw [if_pos (by exact (by decide))]
        refine ia_go 2 rfl ?_
        rw [if_neg (by exact (by decide))]
        refine ia_go 2 rfl ?_
        rw [if_pos (by exact hn0)]
        refine ia_go 3 rfl ?_
        rw [if_neg (by exact (by decide))]
        refine ia_go 3 rfl ?_
        rw [if_pos (by exact (by decide))]
        refine ia_go 3 rfl ?_
        rw [if_neg (by exact (by decide))]
        refine ia_go 3 rfl ?_
        rw [if_neg (by exact (by decide))]
        refine ia_go 3 rfl ?_
        rw [if_neg (by exact (by decide))]
        refine ia_go 1 rfl ?_
        dsimp only [ia_s1, ia_s2, ia_cl, ia_D, List.getElem?_cons_zero, List.getElem?_cons_succ, List.set_cons_zero, List.set_cons_succ]
        refine ia_go 1 rfl ?_
        rw [show nI n + Int32.ofInt 1 = nI (n + 1) from nI_1 n]
        exact go 0 (n + 1) (by omega) (by omega) ((ew _).mpr rfl)
      have nb : ¬ tx_b ch = true := by simp [tx_b, c38, c124, c62]
      by_cases c84 : ch = 84
      · subst c84
        refine ia_go 2 rfl ?_
        rw [if_pos (by exact (by decide))]
        refine ia_go 2 rfl ?_
        rw [if_pos (by exact (by decide))]
        refine ia_go 2 rfl ?_
        rw [if_neg (by exact (by decide))]
        refine ia_go 2 rfl ?_
        rw [if_pos (by exact hn0)]
        refine ia_go 3 rfl ?_
        rw [if_neg (by exact (by decide))]
        refine ia_go 3 rfl ?_
        rw [if_pos (by exact (by decide))]
        refine ia_go 3 rfl ?_
        rw [if_neg (by exact (by decide))]
        refine ia_go 3 rfl ?_
        rw [if_neg (by exact (by decide))]
        refine ia_go 3 rfl ?_
        rw [if_pos (by exact (by decide))]
        refine ia_go 3 rfl ?_
        rw [if_neg (by exact (by decide))]
        refine ia_go 1 rfl ?_
        dsimp only [ia_s1, ia_s2, ia_cl, ia_D, List.getElem?_cons_zero, List.getElem?_cons_succ, List.set_cons_zero, List.set_cons_succ]
        refine ia_go 1 rfl ?_
        rw [nI_dec (show 0 < n by omega)]
        exact go 0 (n - 1) (by omega) (by omega) ((ew _).mpr rfl)
      by_cases c33 : ch = 33
      · subst c33
        refine ia_go 2 rfl ?_
        rw [if_pos (by exact (by decide))]
        refine ia_go 2 rfl ?_
        rw [if_pos (by exact (by decide))]
        refine ia_go 2 rfl ?_
        rw [if_neg (by exact (by decide))]
        refine ia_go 2 rfl ?_
        rw [if_pos (by exact hn0)]
        refine ia_go 3 rfl ?_
        rw [if_neg (by exact (by decide))]
        refine ia_go 3 rfl ?_
        rw [if_pos (by exact (by decide))]
        refine ia_go 3 rfl ?_
        rw [if_neg (by exact (by decide))]
        refine ia_go 3 rfl ?_
        rw [if_neg (by exact (by decide))]
        refine ia_go 3 rfl ?_
        rw [if_pos (by exact (by decide))]
        refine ia_go 3 rfl ?_
        rw [if_pos (by exact (by decide))]
        refine ia_go 3 rfl ?_
        rw [if_pos (by exact rfl)]
        exact go 0 n (by omega) (by omega) ((ew _).mpr rfl)
      · rw [(ew _).mpr (by rw [if_neg nq, if_neg nb, if_neg (by simp [c84]), if_neg (by simp [c33])])]
        refine ia_go 2 rfl ?_
        rw [if_pos (by exact (by decide))]
        refine ia_go 2 rfl ?_
        rw [if_pos (by exact (by decide))]
        refine ia_go 2 rfl ?_
        rw [if_neg (by exact (by decide))]
        refine ia_go 2 rfl ?_
        rw [if_pos (by exact hn0)]
        refine ia_go 3 rfl ?_
        rw [if_neg (by exact c61)]
        refine ia_go 3 rfl ?_
        rw [if_pos (by exact c60)]
        refine ia_go 3 rfl ?_
        rw [if_neg (by exact c38)]
        refine ia_go 3 rfl ?_
        rw [if_neg (by exact c124)]
        refine ia_go 3 rfl ?_
        rw [if_pos (by exact c62)]
        refine ia_go 3 rfl ?_
        rw [if_pos (by exact c84)]
        refine ia_go 3 rfl ?_
        rw [if_neg (by exact c33)]
        refine ia_go 1 rfl ?_
        exact jd_rv1 rfl rfl rfl trivial ⟨rfl, rfl⟩
theorem cl_right {G : ia_G} {h : ia_H} {d a i : Nat} {t : List Int32} (hd : 4 ≤ d) (hT : sx_t h a t) : ia_Cn pg G kk_R_rightCharacters d 0 0 [.ref a, .int (if i = 3 then 1 else 0)] h (fun rv h' => rv = some (.int (rcv (tx_k i t) 0)) ∧ h' = h) := by
  unfold tx_k
  by_cases hi : i = 3
  · rw [if_pos hi, if_pos hi, if_pos hi]
    refine jd_met (ls := [.ref a, .int 1, .retAddr 0, .retAddr 0, .retAddr 0, .retAddr 0]) rfl rfl rfl ?_
    refine ia_go 2 rfl ?_
    rw [if_neg (by exact (by decide))]
    refine ia_go 3 rfl ?_
    dsimp only [ia_s1, ia_s2, ia_cl, ia_D, List.getElem?_cons_zero, List.getElem?_cons_succ, List.set_cons_zero, List.set_cons_succ]
    refine ia_go 2 rfl ?_
    rw [if_neg (by exact (by decide))]
    refine ia_go 3 rfl ?_
    dsimp only [ia_s1, ia_s2, ia_cl, ia_D, List.getElem?_cons_zero, List.getElem?_cons_succ, List.set_cons_zero, List.set_cons_succ]
    refine ia_go 2 rfl ?_
    dsimp only [ia_s1, ia_s2, ia_cl, ia_D, List.getElem?_cons_zero, List.getElem?_cons_succ, List.set_cons_zero, List.set_cons_succ]
    exact cl_rcloop hd hT t.length 0 1 0 (by omega) (by omega) (by omega) _
  · rw [if_neg hi, if_neg hi, if_neg hi]
    refine jd_met (ls := [.ref a, .int 0, .retAddr 0, .retAddr 0, .retAddr 0, .retAddr 0]) rfl rfl rfl ?_
    refine ia_go 2 rfl ?_
    rw [if_pos (by exact rfl)]
    refine ia_go 2 rfl ?_
    dsimp only [ia_s1, ia_s2, ia_cl, ia_D, List.getElem?_cons_zero, List.getElem?_cons_succ, List.set_cons_zero, List.set_cons_succ]
    refine ia_go 2 rfl ?_
    rw [if_pos (by exact rfl)]
    refine ia_go 2 rfl ?_
    dsimp only [ia_s1, ia_s2, ia_cl, ia_D, List.getElem?_cons_zero, List.getElem?_cons_succ, List.set_cons_zero, List.set_cons_succ]
    refine ia_go 2 rfl ?_
    dsimp only [ia_s1, ia_s2, ia_cl, ia_D, List.getElem?_cons_zero, List.getElem?_cons_succ, List.set_cons_zero, List.set_cons_succ]
    exact cl_rcloop hd hT t.length 0 0 1 (by omega) (by omega) (by omega) _
/-- one slot has changed, and Strings were made -/
theorem CY.slot {A : aS} {h : ia_H} {u c1 v c2 i a : Nat} {na sa : Nat → Nat} {t : List Int32} (y : CY A h u c1 v c2 na sa) (hi : i < 4) (hT : tt h u v a t) : CY (aB A, (fun j => if j = i then t else aQ A j), A.2.2) (ia_up h.1 (113 + i) (.inr (6, [.ref a])), h.2) u c1 v c2 na sa := by
  obtain ⟨⟨y0, yb, ysl, ynd, ydr, yjg, ycd, yar, yk⟩, ⟨v1, v2, v3, v4⟩, yn⟩ := y
  have lb := yb.lt
  have ld := ydr.2.lt
  have z : ∀ q, q ≠ 113 + i → (ia_up h.1 (113 + i) (.inr (6, [.ref a])), h.2).1 q = h.1 q := fun q hq => ia_up_ne hq
  have hf : sx_fr h (ia_up h.1 (113 + i) (.inr (6, [.ref a])), h.2) (fun q => q = 113 + i) := ⟨Nat.le_refl _, fun q _ hq => ia_up_ne hq⟩
  have k : ks h (ia_up h.1 (113 + i) (.inr (6, [.ref a])), h.2) u v u v := by
    refine ks_fr hf (fun q hq => ?_) (Or.inl rfl) (Or.inl rfl)
    obtain ⟨a', e, -⟩ := ysl.2 i hi
    right; right
    rw [hq]
    exact ⟨fun r w => (by rw [e] at w; cases w), fun n f w => (by rw [e] at w; cases w)⟩
  refine ⟨⟨(z 64 (by omega)).trans y0, yb.keep (z 65 (by omega)) (z u (by omega)) (Nat.le_refl _), ⟨?_, fun j hj => ?_⟩, ynd.keep (z 68 (by omega)), ydr.keep (z 69 (by omega)) (z 70 (by omega)) (z v (by omega)) (Nat.le_refl _), yjg.keep (fun q _ _ => z q (by omega)), ycd.keep (fun q _ _ => z q (by omega)), yar.keep (z 111 (by omega)) (z 112 (by omega)), yk.keep k⟩, ⟨v1, v2, v3, v4⟩, yn.keep k (fun q q1 q2 _ => z q (by omega)) (Nat.le_refl _)⟩
  · obtain ⟨f, e, g⟩ := ysl.1
    exact ⟨f, (z 67 (by omega)).trans e, g⟩
  · show ∃ a', (ia_up h.1 (113 + i) (.inr (6, [.ref a])), h.2).1 (113 + j) = _ ∧ tt _ u v a' (if j = i then t else aQ A j)
    by_cases e : j = i
    · rw [if_pos e, e]
      exact ⟨a, ia_up_same, k a t hT⟩
    · rw [if_neg e]
      obtain ⟨a', e', q⟩ := ysl.2 j hj
      exact ⟨a', (z _ (by omega)).trans e', k _ _ q⟩
theorem tx_w_le : ∀ (t : List Int32) (m n q : Nat), tx_w m n t = some q → q ≤ t.length := by
  have mp : ∀ {o : Option Nat} {q : Nat}, o.map (· + 1) = some q → ∃ p, o = some p ∧ q = p + 1 := by
    intro o q h
    cases o with
    | none => cases h
    | some p => exact ⟨p, rfl, (Option.some.inj h).symm⟩
  intro t
  induction t with
  | nil =>
    intro m n q h
    unfold tx_w at h
    split at h
    · cases h; exact Nat.le_refl _
    · cases h
  | cons c t ih =>
    intro m n q h
    have go : ∀ m' n', (tx_w m' n' t).map (· + 1) = some q → q ≤ (c :: t).length := fun m' n' z => by
      obtain ⟨p, e, rfl⟩ := mp z
      have := ih _ _ _ e
      show p + 1 ≤ t.length + 1
      omega
    have z0 : some 0 = some q → q ≤ (c :: t).length := fun z => by cases z; exact Nat.zero_le _
    unfold tx_w at h
    split at h
    · split at h
      · exact go _ _ h
      · split at h
        · exact go _ _ h
        · exact z0 h
    · split at h
      · exact z0 h
      · split at h
        · exact go _ _ h
        · split at h
          · exact go _ _ h
          · split at h
            · exact go _ _ h
            · split at h
              · exact go _ _ h
              · exact z0 h
/-- toString: the String and its array are new -/
theorem jd_tos2 {G : ia_G} {h : ia_H} {d b v cap : Nat} {t : List Int32} (hd : 5 ≤ d) (hB : sx_b h b v cap t) (h142 : 142 ≤ h.2) : ia_Cn pg G kk_sb_toString d 2 484 [.ref b] h (fun rv h' => rv = some (.ref h.2) ∧ (∀ u1 v1, u1 < h.2 → v1 < h.2 → tt h' u1 v1 h.2 t) ∧ sx_fr h h' (fun _ => False) ∧ h'.2 = h.2 + 2) := by
  obtain ⟨m, f, hb, hv, hf, hx, hl, hc, g1, g2, g3, g4, g5, g6⟩ := hB
  refine jd_met (ls := [.ref b]) rfl rfl rfl ?_
  refine ia_new rfl rfl rfl (bc' := 1) (bs' := 480) (by omega) (by show 480 + 4 ≤ 484; omega) ?_
  refine ia_go 2 rfl ?_
  have hB2 : sx_b (ia_up h.1 h.2 (.inr (10, [.null, .int 0, .int 0, .int 0])), h.2 + 1) b v cap t := ⟨m, f, (ia_up_ne (Nat.ne_of_lt g4)).trans hb, (ia_up_ne (Nat.ne_of_lt g5)).trans hv, hf, hx, hl, hc, g1, g2, g3, Nat.lt_succ_of_lt g4, Nat.lt_succ_of_lt g5, g6⟩
  refine jd_cI h.2 [.ref b] [.ref h.2] 1 480 (d' := d - 1) rfl rfl rfl (fs := [.null, .int 0, .int 0, .int 0]) ia_up_same rfl rfl (by omega) (by omega) (by omega) (jd_sinit (by omega) ia_up_same (by omega) (Nat.lt_succ_self _) hB2) ?_
  rintro rv h' ⟨rfl, g, rfl, hg⟩
  refine jd_rv1 rfl rfl rfl trivial ⟨rfl, fun u1 v1 hu1 hv1 => ⟨h.2 + 1, [.int 0, .int 0], g, ia_up_same, ?_, hg, g6, by omega, ⟨?_, ?_⟩, ⟨by omega, by omega, by omega, by omega⟩, Or.inr h142, Or.inr (by omega)⟩, ⟨?_, fun q hq _ => ?_⟩, rfl⟩
  · exact (ia_up_ne (by show h.2 + 1 ≠ h.2; omega)).trans ia_up_same
  · show h.2 < h.2 + 1 + 1; omega
  · show h.2 + 1 < h.2 + 1 + 1; omega
  · show h.2 ≤ h.2 + 1 + 1; omega
  · exact ((ia_up_ne (Nat.ne_of_lt hq)).trans (ia_up_ne (by show q ≠ h.2 + 1; omega))).trans (ia_up_ne (Nat.ne_of_lt hq))
theorem cl_hdtail {G : ia_G} {h0 h : ia_H} {d i a u c1 v c2 bc bs : Nat} {na sa : Nat → Nat} {A : aS} {z3 : Value} (hd : 6 ≤ d) (hi : i < 4) (hl : (aB A).length ≤ 480) (y : CY ([], A.2) h u c1 v c2 na sa) (hT : tt h u v a (aB A)) (hf : sx_fr h0 h cx_S) (hs : h.2 ≤ h0.2 + 3) : ia_Sx pg G kk_R_hold d bc bs 38 [.ref 64, .int (nI i), .ref a, z3] [.int (if i = 3 then 1 else 0), .ref a] h (cx_P h0 3 (sp_hold A (nI i))) := by
  have ex : (sp_hold A (nI i)) = (match tx_k i (aB A) with
    | some q => (([], A.2), -100 - nI q)
    | none => (([], (fun j => if j = i then aB A else aQ A j), A.2.2), nI (aB A).length)) := by
    unfold sp_hold
    rw [ch_pos ⟨i, hi, rfl⟩, nI_clamp (by omega)]
    rfl
  have y0 := y.1.1
  obtain ⟨w, r, f, ha, hw, -⟩ := id hT
  cases hx : tx_k i (aB A) with
  | some q =>
    rw [hx] at ex
    have hq := tx_w_le _ _ _ _ hx
    refine jd_cS [.ref a, .int (if i = 3 then 1 else 0)] [] 0 0 (d' := d - 1) rfl rfl rfl rfl rfl (by omega) (by omega) (by omega) (cl_right (by omega) hT.s) ?_
    rintro rv h' ⟨rfl, hh⟩
    subst hh
    refine ia_go 1 rfl ?_
    dsimp only [ia_s1, ia_s2, ia_cl, ia_D, List.getElem?_cons_zero, List.getElem?_cons_succ, List.set_cons_zero, List.set_cons_succ]
    rw [hx, show rcv (some q) 0 = nI q by show nI (0 + q) = nI q; rw [Nat.zero_add]]
    refine ia_go 2 rfl ?_
    rw [if_neg (by exact (nI_pos (by omega)))]
    refine ia_go 3 rfl ?_
    refine jd_rv1 rfl rfl rfl trivial ?_
    rw [ex]
    exact ⟨rfl, ⟨_, _, _, _, _, _, y⟩, hf, by omega⟩
  | none =>
    rw [hx] at ex
    obtain ⟨f67, e67, g67⟩ := y.1.2.2.1.1
    obtain ⟨a', e', -⟩ := y.1.2.2.1.2 i hi
    refine jd_cS [.ref a, .int (if i = 3 then 1 else 0)] [] 0 0 (d' := d - 1) rfl rfl rfl rfl rfl (by omega) (by omega) (by omega) (cl_right (by omega) hT.s) ?_
    rintro rv h' ⟨rfl, hh⟩
    subst hh
    refine ia_go 1 rfl ?_
    dsimp only [ia_s1, ia_s2, ia_cl, ia_D, List.getElem?_cons_zero, List.getElem?_cons_succ, List.set_cons_zero, List.set_cons_succ]
    rw [hx, show rcv none 0 = -1 from rfl]
    refine ia_go 2 rfl ?_
    rw [if_pos (by exact (by decide))]
    refine ia_go 1 rfl ?_
    refine ia_getf rfl y0 rfl ?_
    refine ia_go 1 rfl ?_
    refine ia_aald rfl e67 (vp_in_nI hi (by omega)) (v := .ref (113 + i)) (by rw [nI_clamp (by omega), g67 i hi]) ?_
    refine ia_go 1 rfl ?_
    refine ia_putf rfl e' (by omega) rfl rfl rfl rfl ?_
    refine ia_go 1 rfl ?_
    have ha' := (ia_up_ne (h := _) (a := 113 + i) (x := .inr (6, [.ref a])) (show a ≠ 113 + i from fun z => by rw [z, e'] at ha; cases ha)).trans ha
    have hw' := (ia_up_ne (h := _) (a := 113 + i) (x := .inr (6, [.ref a])) (show w ≠ 113 + i from fun z => by rw [z, e'] at hw; cases hw)).trans hw
    refine jd_cV a [] [] 0 0 (d' := d - 1) rfl rfl rfl ha' rfl rfl (by omega) (by omega) (by omega) (jd_slen (by omega) ha' hw') ?_
    rintro rv h' ⟨rfl, hh⟩
    subst hh
    refine jd_rv1 rfl rfl rfl trivial ?_
    rw [ex]
    refine ⟨rfl, ⟨_, _, _, _, _, _, y.slot hi hT⟩, hf.tr ⟨Nat.le_refl _, fun q _ hS => ia_up_ne fun z => hS ?_⟩, by omega⟩
    rw [z]; unfold cx_S rm_S; omega
theorem cx_hold {G : ia_G} {h : ia_H} {d : Nat} {A : aS} {s : Int32} (hd : 6 ≤ d) (y : CX A h) : ia_Cn pg G kk_R_hold d 2 484 [.ref 64, .int s] h (cx_P h 3 (sp_hold A s)) := by
  have y' := y
  obtain ⟨u, c1, v, c2, na, sa, yy⟩ := y
  obtain ⟨⟨y0, yb, -, -, ydr, -⟩, ⟨v1, v2, v3, v4⟩, -⟩ := id yy
  obtain ⟨m0, f0, hb0, -⟩ := id yb
  have lb := yb.lt
  have ld := ydr.2.lt
  have bl : (aB A).length ≤ 480 := by
    obtain ⟨m, f, -, -, -, -, b1, b2, -⟩ := yb
    omega
  have bad : (¬ ∃ i, i < 4 ∧ s = nI i) → cx_P h 3 (sp_hold A s) (some (.int (-1))) h := fun c => by
    unfold sp_hold
    rw [ch_neg c]
    exact ⟨rfl, y', sx_fr.rf, by omega⟩
  by_cases h1 : s < 0
  ·
    refine jd_met (ls := [.ref 64, .int s, .retAddr 0, .retAddr 0]) rfl rfl rfl ?_
    refine ia_go 2 rfl ?_
    rw [if_pos (by exact h1)]
    refine ia_go 1 rfl ?_
    exact jd_rv1 rfl rfl rfl trivial (bad (by rintro ⟨i, hi, rfl⟩; exact absurd h1 (nI_pos (by omega))))
  by_cases h2 : s ≤ 3
  · obtain ⟨i, hi, rfl⟩ := nI_of2 (M := 3) (n := 3) (by decide) h1 h2
    refine jd_met (ls := [.ref 64, .int (nI i), .retAddr 0, .retAddr 0]) rfl rfl rfl ?_
    refine ia_go 2 rfl ?_
    rw [if_neg (by exact h1)]
    refine ia_go 3 rfl ?_
    rw [if_pos (by exact h2)]
    refine ia_go 1 rfl ?_
    refine ia_getf rfl y0 rfl ?_
    refine jd_cV 65 [] [] 2 484 (d' := d - 1) rfl rfl rfl hb0 rfl rfl (by omega) (by omega) (by omega) (jd_tos2 (by omega) yb v4) ?_
    rintro rv h1' ⟨rfl, hT1, hf1, hs1⟩
    refine ia_go 1 rfl ?_
    dsimp only [ia_s1, ia_s2, ia_cl, ia_D, List.getElem?_cons_zero, List.getElem?_cons_succ, List.set_cons_zero, List.set_cons_succ]
    refine ia_go 1 rfl ?_
    have y1 := yy.off hf1 (fun q z => False.elim z)
    have hT1 := hT1 u v lb.2.1 ld.2.1
    have e64 := y1.1.1.1
    have yb1 := y1.1.1.2.1
    obtain ⟨m1, f1, hb1, -⟩ := id yb1
    refine ia_getf rfl e64 rfl ?_
    refine ia_go 1 rfl ?_
    refine jd_cV 65 [.int 0] [] 0 0 (d' := d - 1) rfl rfl rfl hb1 rfl rfl (by omega) (by omega) (by omega) (jr_sset0 (by omega) yb1) ?_
    rintro rv h2' ⟨rfl, u', c1', hB2, hf2, hs2, hvv⟩
    have y2 := y1.1.buf hB2 (hf2.mono (fun q z => Or.inl z)) (by omega)
    have k2 : ks h1' h2' u v u' v := ks_fr hf2 (fun q z => Or.inr (Or.inr (by rw [z]; exact ⟨fun r w => (by rw [hb1] at w; cases w), fun n f w => (by rw [hb1] at w; cases w)⟩))) (by omega) (Or.inl rfl)
    have hfr : sx_fr h h2' cx_S := (hf1.mono (fun q z => False.elim z)).tr y2.2
    have fin := fun z3 => cl_hdtail (G := G) (bc := 2 - 2 - 0) (bs := 484 - 484 - 0) (z3 := z3) hd (show i < 4 by omega) bl y2.1 (k2 _ _ hT1) hfr (show h2'.2 ≤ h.2 + 3 by omega)
    refine ia_go 1 rfl ?_
    by_cases i3 : i = 3
    · rw [if_pos i3] at fin
      subst i3
      refine ia_go 3 rfl ?_
      rw [if_neg (by exact (fun z => z rfl))]
      refine ia_go 2 rfl ?_
      exact fin _
    · rw [if_neg i3] at fin
      refine ia_go 3 rfl ?_
      rw [if_pos (by exact (fun z => i3 ((nI_eq (b := 3) (by omega) (by omega)).mp z)))]
      refine ia_go 1 rfl ?_
      exact fin _
  ·
    refine jd_met (ls := [.ref 64, .int s, .retAddr 0, .retAddr 0]) rfl rfl rfl ?_
    refine ia_go 2 rfl ?_
    rw [if_neg (by exact h1)]
    refine ia_go 3 rfl ?_
    rw [if_neg (by exact h2)]
    refine ia_go 1 rfl ?_
    exact jd_rv1 rfl rfl rfl trivial (bad (by rintro ⟨i, hi, rfl⟩; exact h2 (nI_le (b := 3) (by omega) (by omega))))
