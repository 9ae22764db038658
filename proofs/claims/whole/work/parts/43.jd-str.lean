/-! THE JDK'S METHODS, 4: append of a String, toString, constructor, indexOf. -/
theorem jd_getB {G : ia_G} {h : ia_H} {d a w v n cap k : Nat} {r : List Value} {f g : Nat → Value} (hd : 1 ≤ d) (ha : h.1 a = some (.inr (10, .ref w :: .int 0 :: r))) (hw : h.1 w = some (.inl (.byte, n, f))) (hv : h.1 v = some (.inl (.byte, cap, g))) (h64 : 64 ≤ v) (hf : ∀ j, j < n → ∃ x : Int32, f j = .int x ∧ fits .byte (.int x) = true) (hk : k + n ≤ cap) (hc : cap ≤ 480) : ia_Cn pg G kk_st_getBytes d 0 0 [.ref a, .ref v, .int (nI k), .int 0] h (fun rv h' => rv = none ∧ h' = (ia_up h.1 v (.inl (.byte, cap, va_cpy f g 0 k n)), h.2)) := by
  refine jd_met (ls := [.ref a, .ref v, .int (nI k), .int 0]) rfl rfl rfl ?_
  refine ia_go 1 rfl ?_
  refine jd_cV a [] [] 0 0 (d' := d - 1) rfl rfl rfl ha rfl rfl (by omega) (by omega) (by omega) (jd_coder ha) ?_
  rintro rv h' ⟨rfl, rfl⟩
  refine ia_go 2 rfl ?_
  rw [if_neg (fun z => z rfl)]
  refine ia_go 1 rfl ?_
  refine ia_getf rfl ha rfl ?_
  refine ia_go 6 rfl ?_
  refine ia_getf rfl ha rfl ?_
  refine jd_alen rfl hw ?_
  rw [jd_sl0]
  refine ia_copy pg_ok.2 rfl hw hv h64 (by decide) (nI_pos (by omega)) (nI_pos (by omega)) (by rw [nI_clamp (by omega)]; show 0 + n ≤ n; omega) (by rw [nI_clamp (by omega), nI_clamp (by omega)]; exact hk) (fun i hi => by rw [nI_clamp (by omega)] at hi; show ∃ x, f (0 + i) = _ ∧ _; rw [Nat.zero_add]; exact hf i hi) (Nat.le_of_ble_eq_true rfl) hd ?_
  refine ia_go 1 rfl ?_
  refine jd_rv0 rfl rfl rfl ⟨rfl, ?_⟩
  rw [nI_clamp (by omega), nI_clamp (by omega)]; rfl
theorem jd_infl {G : ia_G} {h : ia_H} {d a b : Nat} {v0 v2 v3 w0 : Value} {r : List Value} (hd : 1 ≤ d) (hb : h.1 b = some (.inr (9, [v0, .int 0, v2, v3]))) (ha : h.1 a = some (.inr (10, w0 :: .int 0 :: r))) : ia_Cn pg G kk_ab_inflateIfNeededFor d 0 0 [.ref b, .ref a] h (fun rv h' => rv = none ∧ h' = h) := by
  refine jd_met (ls := [.ref b, .ref a]) rfl rfl rfl ?_
  refine ia_gets rfl ?_
  refine ia_go 1 rfl ?_
  rw [if_neg (by decide)]
  refine ia_go 1 rfl ?_
  refine ia_getf rfl hb rfl ?_
  refine ia_go 1 rfl ?_
  refine jd_cV a [] [.int 0] 0 0 (d' := d - 1) rfl rfl rfl ha rfl rfl (by omega) (by omega) (by omega) (jd_coder ha) ?_
  rintro rv h' ⟨rfl, rfl⟩
  refine ia_go 1 rfl ?_
  rw [if_pos rfl]
  exact jd_rv0 rfl rfl rfl ⟨rfl, rfl⟩
theorem jd_putS {G : ia_G} {h : ia_H} {d a b w v n cap k : Nat} {v2 v3 : Value} {r : List Value} {f g : Nat → Value} (hd : 2 ≤ d) (hb : h.1 b = some (.inr (9, [.ref v, .int 0, v2, v3]))) (ha : h.1 a = some (.inr (10, .ref w :: .int 0 :: r))) (hw : h.1 w = some (.inl (.byte, n, f))) (hv : h.1 v = some (.inl (.byte, cap, g))) (h64 : 64 ≤ v) (hf : ∀ j, j < n → ∃ x : Int32, f j = .int x ∧ fits .byte (.int x) = true) (hk : k + n ≤ cap) (hc : cap ≤ 480) : ia_Cn pg G kk_ab_putStringAt d 0 0 [.ref b, .int (nI k), .ref a] h (fun rv h' => rv = none ∧ h' = (ia_up h.1 v (.inl (.byte, cap, va_cpy f g 0 k n)), h.2)) := by
  refine jd_met (ls := [.ref b, .int (nI k), .ref a]) rfl rfl rfl ?_
  refine ia_go 2 rfl ?_
  refine jd_cV b [.ref a] [] 0 0 (d' := d - 1) rfl rfl rfl hb rfl rfl (by omega) (by omega) (by omega) (jd_infl (by omega) hb ha) ?_
  rintro rv h' ⟨rfl, rfl⟩
  refine ia_go 2 rfl ?_
  refine ia_getf rfl hb rfl ?_
  refine ia_go 2 rfl ?_
  refine ia_getf rfl hb rfl ?_
  refine jd_cV a [.ref v, .int (nI k), .int 0] [] 0 0 (d' := d - 1) rfl rfl rfl ha rfl rfl (by omega) (by omega) (by omega) (jd_getB (by omega) ha hw hv h64 hf hk hc) ?_
  rintro rv h' ⟨rfl, rfl⟩
  exact jd_rv0 rfl rfl rfl ⟨rfl, rfl⟩
/-- a String's cells are not a builder's -/
theorem jd_appS {G : ia_G} {h : ia_H} {d a b v cap : Nat} {t u : List Int32} (hd : 4 ≤ d) (hB : sx_b h b v cap t) (hT : sx_t h a u) (hk : t.length + u.length ≤ 240) : ia_Cn pg G kk_ab_append_LString d 1 480 [.ref b, .ref a] h (fun rv h' => rv = some (.ref b) ∧ ∃ v' cap', sx_b h' b v' cap' (t ++ u) ∧ sx_fr h h' (fun q => q = b ∨ q = v) ∧ h'.2 ≤ h.2 + 1 ∧ (v' = v ∨ h.2 ≤ v')) := by
  obtain ⟨w, r, f, ha, hw, hf, hch, hul, p1, p2⟩ := hT
  obtain ⟨m0, f0, hb0, -⟩ := id hB
  refine jd_met (ls := [.ref b, .ref a, .retAddr 0]) rfl rfl rfl ?_
  refine ia_go 2 rfl ?_
  refine ia_go 1 rfl ?_
  refine jd_cV a [] [] 0 0 (d' := d - 1) rfl rfl rfl ha rfl rfl (by omega) (by omega) (by omega) (jd_slen (by omega) ha hw) ?_
  rintro rv h' ⟨rfl, rfl⟩
  refine ia_go 1 rfl ?_
  dsimp only [ia_s1, ia_s2, ia_cl, ia_D, List.getElem?_cons_zero, List.getElem?_cons_succ, List.set_cons_zero, List.set_cons_succ]
  refine ia_go 2 rfl ?_
  refine ia_getf rfl hb0 rfl ?_
  refine ia_go 2 rfl ?_
  rw [nI_add]
  refine jd_cV b [.int (nI (t.length + u.length))] [] 1 480 (d' := d - 1) rfl rfl rfl hb0 rfl rfl (by omega) (by omega) (by omega) (jd_ensure (by omega) hB (by omega)) ?_
  rintro rv h2 ⟨rfl, v', cap', hB', hcap, hfr, hsz, hvv⟩
  refine ia_go 2 rfl ?_
  obtain ⟨m, g, hb, hv, hg, hx, hl, hc, g1, g2, g3, g4, g5, g6⟩ := hB'
  have hab : a ≠ b := fun z => by rw [z, hb0] at ha; cases ha
  have hwb : w ≠ b := fun z => by rw [z, hb0] at hw; cases hw
  have ha2 : h2.1 a = some (.inr (10, .ref w :: .int 0 :: r)) := (hfr.2 a p1 hab).trans ha
  have hw2 : h2.1 w = some (.inl (.byte, u.length, f)) := (hfr.2 w p2 hwb).trans hw
  have hfx : ∀ j, j < u.length → ∃ x : Int32, f j = .int x ∧ fits .byte (.int x) = true := fun j hj => ⟨u[j], hf j _ (List.getElem?_eq_getElem hj), (jd_byte (hch _ (List.getElem_mem hj)).1 (hch _ (List.getElem_mem hj)).2).2.2.1⟩
  refine ia_getf rfl hb rfl ?_
  refine ia_go 1 rfl ?_
  refine jd_cV b [.int (nI t.length), .ref a] [] 0 0 (d' := d - 1) rfl rfl rfl hb rfl rfl (by omega) (by omega) (by omega) (jd_putS (by omega) hb ha2 hw2 hv g2 hfx (by omega) hc) ?_
  rintro rv h' ⟨rfl, rfl⟩
  refine ia_go 2 rfl ?_
  refine ia_getf rfl ((ia_up_ne g3).trans hb) rfl ?_
  refine ia_go 2 rfl ?_
  rw [nI_add]
  refine ia_putf rfl ((ia_up_ne g3).trans hb) g1 rfl rfl rfl rfl ?_
  refine ia_go 1 rfl ?_
  refine jd_rv1 rfl rfl rfl trivial ⟨rfl, v', cap', ⟨m, va_cpy f g 0 t.length u.length, ?_, (ia_up_ne (Ne.symm g3)).trans ia_up_same, ?_, ?_, ?_, hc, g1, g2, g3, g4, g5, ?_⟩, ?_, hsz, hvv⟩
  · rw [show (ia_up (ia_up h2.1 v' _) b _, h2.2).1 b = some _ from ia_up_same, List.length_append]; rfl
  · intro j x hj
    unfold va_cpy
    by_cases hjt : j < t.length
    · rw [List.getElem?_append_left hjt] at hj
      rw [if_neg (by omega)]
      exact hg j x hj
    · rw [List.getElem?_append_right (by omega)] at hj
      have hj2 : j - t.length < u.length := (List.getElem?_eq_some_iff.mp hj).1
      rw [if_pos ⟨by omega, by omega⟩, Nat.zero_add]
      exact hf _ x hj
  · intro j hj
    unfold va_cpy
    by_cases hjt : t.length ≤ j ∧ j < t.length + u.length
    · rw [if_pos hjt, Nat.zero_add]; exact hfx _ (by omega)
    · rw [if_neg hjt]; exact hx j hj
  · rw [List.length_append]; exact hcap
  · intro x hx9
    rcases List.mem_append.mp hx9 with hx9 | hx9
    · exact g6 x hx9
    · exact hch x hx9
  · refine ⟨hfr.1, fun q hq hS => ?_⟩
    have hqv : q ≠ v' := fun z => by
      rcases hvv with hvv | hvv
      · exact hS (Or.inr (z.trans hvv))
      · omega
    rw [show (ia_up (ia_up h2.1 v' _) b _, h2.2).1 q = h2.1 q from (ia_up_ne fun z => hS (Or.inl z)).trans (ia_up_ne hqv)]
    exact hfr.2 q hq (fun z => hS (Or.inl z))
theorem jd_sappS {G : ia_G} {h : ia_H} {d a b v cap : Nat} {t u : List Int32} (hd : 5 ≤ d) (hB : sx_b h b v cap t) (hT : sx_t h a u) (hk : t.length + u.length ≤ 240) : ia_Cn pg G kk_sb_append_LString d 1 480 [.ref b, .ref a] h (fun rv h' => rv = some (.ref b) ∧ ∃ v' cap', sx_b h' b v' cap' (t ++ u) ∧ sx_fr h h' (fun q => q = b ∨ q = v) ∧ h'.2 ≤ h.2 + 1 ∧ (v' = v ∨ h.2 ≤ v')) := by
  obtain ⟨m0, f0, hb0, -⟩ := id hB
  refine jd_met (ls := [.ref b, .ref a]) rfl rfl rfl ?_
  refine ia_go 2 rfl ?_
  refine jd_cI b [.ref a] [] 1 480 (d' := d - 1) rfl rfl rfl hb0 rfl rfl (by omega) (by omega) (by omega) (jd_appS (by omega) hB hT hk) ?_
  rintro rv h' ⟨rfl, v', cap', hB', hR⟩
  refine ia_go 2 rfl ?_
  exact jd_rv1 rfl rfl rfl trivial ⟨rfl, v', cap', hB', hR⟩
theorem jd_ckl {G : ia_G} {h : ia_H} {d n : Nat} (hn : n < 2 ^ 31) : ia_Cn pg G kk_ar_checkLength d 0 0 [.int 0, .int (nI n)] h (fun rv h' => rv = none ∧ h' = h) := by
  refine jd_met (ls := [.int 0, .int (nI n)]) rfl rfl rfl ?_
  refine ia_go 3 rfl ?_
  rw [if_pos (nI_pos' hn)]
  exact jd_rv0 rfl rfl rfl ⟨rfl, rfl⟩
theorem jd_copyRB {G : ia_G} {h : ia_H} {d v cap n : Nat} {f : Nat → Value} (hd : 1 ≤ d) (hv : h.1 v = some (.inl (.byte, cap, f))) (hf : ∀ j, j < cap → ∃ x : Int32, f j = .int x ∧ fits .byte (.int x) = true) (hn : n ≤ cap) (hc : cap ≤ 480) (h64 : 64 ≤ h.2) (hne : v < h.2) : ia_Cn pg G kk_ar_copyOfRangeByte d 1 n [.ref v, .int 0, .int (nI n)] h (fun rv h' => rv = some (.ref h.2) ∧ ∃ g : Nat → Value, h' = (ia_up h.1 h.2 (.inl (.byte, n, g)), h.2 + 1) ∧ ∀ j, j < n → g j = f j) := by
  refine jd_met (ls := [.ref v, .int 0, .int (nI n), .retAddr 0, .retAddr 0]) rfl rfl rfl ?_
  refine ia_go 2 rfl ?_
  refine jd_cS [.int 0, .int (nI n)] [] 0 0 (d' := d - 1) rfl rfl rfl rfl rfl (by omega) (by omega) (by omega) (jd_ckl (by omega)) ?_
  rintro rv h' ⟨rfl, rfl⟩
  refine ia_go 4 rfl ?_
  dsimp only [ia_s1, ia_s2, ia_cl, ia_D, List.getElem?_cons_zero, List.getElem?_cons_succ, List.set_cons_zero, List.set_cons_succ]
  refine ia_go 1 rfl ?_
  rw [show nI n - 0 = nI n from jd_sub (b := 0) (by omega)]
  refine ia_newa rfl rfl rfl (N := n) (bc' := 0) (bs' := 0) (nI_pos (by omega)) (nI_clamp (by omega)) (by show n * 1 ≤ 536870912; omega) (by omega) (by omega) ?_
  refine ia_go 1 rfl ?_
  dsimp only [ia_s1, ia_s2, ia_cl, ia_D, List.getElem?_cons_zero, List.getElem?_cons_succ, List.set_cons_zero, List.set_cons_succ]
  refine ia_go 5 rfl ?_
  have hv' : ia_up h'.1 h'.2 (.inl (.byte, n, fun _ => .int 0)) v = some (.inl (.byte, cap, f)) := (ia_up_ne (by omega)).trans hv
  refine jd_alen rfl hv' ?_
  refine ia_go 3 rfl ?_
  rw [show nI cap - 0 = nI cap from jd_sub (b := 0) (by omega)]
  refine ia_mmin pg_ok.2 rfl (Nat.le_of_ble_eq_true rfl) (by omega) ?_
  have e1 : (if nI n < nI cap then nI n else nI cap) = nI n := by
    by_cases hnc : n < cap
    · rw [if_pos (nI_lt hnc (by omega))]
    · rw [if_neg (nI_nlt (by omega) (by omega)), show cap = n by omega]
  rw [e1]
  refine ia_copy pg_ok.2 rfl hv' ia_up_same h64 (by decide) (by decide) (nI_pos (by omega)) (by rw [nI_clamp (by omega)]; show 0 + n ≤ cap; omega) (by rw [nI_clamp (by omega)]; show 0 + n ≤ n; omega) (fun i hi => by rw [nI_clamp (by omega)] at hi; show ∃ x, f (0 + i) = _ ∧ _; rw [Nat.zero_add]; exact hf i (by omega)) (Nat.le_of_ble_eq_true rfl) hd ?_
  refine ia_go 1 rfl ?_
  refine jd_rv1 rfl rfl rfl trivial ⟨rfl, va_cpy f (fun _ => .int 0) 0 0 n, ?_, fun j hj => ?_⟩
  · rw [nI_clamp (by omega)]
    show (ia_up (ia_up h'.1 h'.2 _) h'.2 _, _) = _
    congr 1
    funext q
    by_cases hq : q = h'.2
    · subst hq; rw [ia_up_same, ia_up_same]; rfl
    · rw [ia_up_ne hq, ia_up_ne hq, ia_up_ne hq]
  · unfold va_cpy
    rw [if_pos ⟨by omega, by omega⟩, show 0 + (j - 0) = j by omega]
theorem jd_copyR {G : ia_G} {h : ia_H} {d v cap n : Nat} {f : Nat → Value} (hd : 2 ≤ d) (hv : h.1 v = some (.inl (.byte, cap, f))) (hf : ∀ j, j < cap → ∃ x : Int32, f j = .int x ∧ fits .byte (.int x) = true) (hn : n ≤ cap) (hc : cap ≤ 480) (h64 : 64 ≤ v) (hne : v < h.2) : ia_Cn pg G kk_ar_copyOfRange d 1 n [.ref v, .int 0, .int (nI n)] h (fun rv h' => rv = some (.ref h.2) ∧ ∃ g : Nat → Value, h' = (ia_up h.1 h.2 (.inl (.byte, n, g)), h.2 + 1) ∧ ∀ j, j < n → g j = f j) := by
  refine jd_met (ls := [.ref v, .int 0, .int (nI n)]) rfl rfl rfl ?_
  refine ia_go 2 rfl ?_
  rw [if_neg (fun z => z rfl)]
  refine ia_go 2 rfl ?_
  refine jd_alen rfl hv ?_
  refine ia_go 1 rfl ?_
  by_cases hnc : n = cap
  · rw [if_pos (by rw [hnc])]
    subst hnc
    refine ia_go 1 rfl ?_
    refine ia_clone pg_ok.2 rfl (bc' := 0) (bs' := 0) hv h64 hf (Nat.le_of_ble_eq_true rfl) (by omega) (by omega) (by omega) ?_
    refine ia_cast rfl ia_up_same (by omega) ?_
    exact jd_rv1 rfl rfl rfl trivial ⟨rfl, f, rfl, fun _ _ => rfl⟩
  · rw [if_neg (show ¬ nI n = nI cap by rw [nI_eq (by omega) (by omega)]; exact hnc)]
    refine ia_go 3 rfl ?_
    refine jd_cS [.ref v, .int 0, .int (nI n)] [] 1 n (d' := d - 1) rfl rfl rfl rfl rfl (by omega) (by omega) (by omega) (jd_copyRB (by omega) hv hf hn hc (by omega) hne) ?_
    rintro rv h' ⟨rfl, hg⟩
    exact jd_rv1 rfl rfl rfl trivial ⟨rfl, hg⟩
