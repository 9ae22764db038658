/-! THE JDK'S METHODS, 7: append(String), setLength(0), with the room that is needed. -/
theorem jr_appS {G : ia_G} {h : ia_H} {d a b v cap mc ms : Nat} {t u : List Int32} (hd : 4 ≤ d) (hB : sx_b h b v cap t) (hT : sx_t h a u) (hk : t.length + u.length ≤ 240) (hr : t.length + u.length ≤ cap ∨ (1 ≤ mc ∧ 480 ≤ ms)) : ia_Cn pg G kk_ab_append_LString d mc ms [.ref b, .ref a] h (fun rv h' => rv = some (.ref b) ∧ ∃ v' cap', sx_b h' b v' cap' (t ++ u) ∧ sx_fr h h' (fun q => q = b ∨ q = v) ∧ h'.2 ≤ h.2 + 1 ∧ ((v' = v ∧ cap' = cap) ∨ (h.2 ≤ v' ∧ 2 * cap + 2 ≤ cap'))) := by
  obtain ⟨w, r, f, ha, hw, hf, hch, hul, p1, p2⟩ := hT
  obtain ⟨m0, f0, hb0, -⟩ := id hB
  refine jd_met (ls := [.ref b, .ref a, .retAddr 0]) rfl rfl rfl ?_
  refine ia_go 2 rfl ?_
  refine ia_go 1 rfl ?_
  refine jd_cV a [] [] 0 0 (d' := d - 1) rfl rfl rfl ha rfl rfl (by omega) (by omega) (by omega) (jd_slen (by omega) ha hw) ?_
  rintro rv h' ⟨rfl, rfl⟩
  refine ia_go 1 rfl ?_
  dsimp only [ia_s1, ia_s2, ia_cl, ia_D, List.getElem?_cons_zero, List.getElem?_cons_succ, List.set_cons_zero, List.set_cons_succ]
  refine ia_go 2 rfl ?_
  refine ia_getf rfl hb0 rfl ?_
  refine ia_go 2 rfl ?_
  rw [nI_add]
  refine jd_cV b [.int (nI (t.length + u.length))] [] mc ms (d' := d - 1) rfl rfl rfl hb0 rfl rfl (by omega) (by omega) (by omega) (jr_ensure (by omega) hB (by omega) hr) ?_
  rintro rv h2 ⟨rfl, v', cap', hB', hcap, hfr, hsz, hvv⟩
  refine ia_go 2 rfl ?_
  obtain ⟨m, g, hb, hv, hg, hx, hl, hc, g1, g2, g3, g4, g5, g6⟩ := hB'
  have hab : a ≠ b := fun z => by rw [z, hb0] at ha; cases ha
  have hwb : w ≠ b := fun z => by rw [z, hb0] at hw; cases hw
  have ha2 : h2.1 a = some (.inr (10, .ref w :: .int 0 :: r)) := (hfr.2 a p1 hab).trans ha
  have hw2 : h2.1 w = some (.inl (.byte, u.length, f)) := (hfr.2 w p2 hwb).trans hw
  have hfx : ∀ j, j < u.length → ∃ x : Int32, f j = .int x ∧ fits .byte (.int x) = true := fun j hj => ⟨u[j], hf j _ (List.getElem?_eq_getElem hj), (jd_byte (hch _ (List.getElem_mem hj)).1 (hch _ (List.getElem_mem hj)).2).2.2.1⟩
  refine ia_getf rfl hb rfl ?_
  refine ia_go 1 rfl ?_
  refine jd_cV b [.int (nI t.length), .ref a] [] 0 0 (d' := d - 1) rfl rfl rfl hb rfl rfl (by omega) (by omega) (by omega) (jd_putS (by omega) hb ha2 hw2 hv g2 hfx (by omega) hc) ?_
  rintro rv h' ⟨rfl, rfl⟩
  refine ia_go 2 rfl ?_
  refine ia_getf rfl ((ia_up_ne g3).trans hb) rfl ?_
  refine ia_go 2 rfl ?_
  rw [nI_add]
  refine ia_putf rfl ((ia_up_ne g3).trans hb) g1 rfl rfl rfl rfl ?_
  refine ia_go 1 rfl ?_
  refine jd_rv1 rfl rfl rfl trivial ⟨rfl, v', cap', ⟨m, va_cpy f g 0 t.length u.length, ?_, (ia_up_ne (Ne.symm g3)).trans ia_up_same, ?_, ?_, ?_, hc, g1, g2, g3, g4, g5, ?_⟩, ?_, hsz, hvv⟩
  · rw [show (ia_up (ia_up h2.1 v' _) b _, h2.2).1 b = some _ from ia_up_same, List.length_append]; rfl
  · intro j x hj
    unfold va_cpy
    by_cases hjt : j < t.length
    · rw [List.getElem?_append_left hjt] at hj
      rw [if_neg (by omega)]
      exact hg j x hj
    · rw [List.getElem?_append_right (by omega)] at hj
      have hj2 : j - t.length < u.length := (List.getElem?_eq_some_iff.mp hj).1
      rw [if_pos ⟨by omega, by omega⟩, Nat.zero_add]
      exact hf _ x hj
  · intro j hj
    unfold va_cpy
    by_cases hjt : t.length ≤ j ∧ j < t.length + u.length
    · rw [if_pos hjt, Nat.zero_add]; exact hfx _ (by omega)
    · rw [if_neg hjt]; exact hx j hj
  · rw [List.length_append]; exact hcap
  · intro x hx9
    rcases List.mem_append.mp hx9 with hx9 | hx9
    · exact g6 x hx9
    · exact hch x hx9
  · refine ⟨hfr.1, fun q hq hS => ?_⟩
    have hqv : q ≠ v' := fun z => by
      rcases hvv with hvv | hvv
      · exact hS (Or.inr (z.trans hvv.1))
      · omega
    rw [show (ia_up (ia_up h2.1 v' _) b _, h2.2).1 q = h2.1 q from (ia_up_ne fun z => hS (Or.inl z)).trans (ia_up_ne hqv)]
    exact hfr.2 q hq (fun z => hS (Or.inl z))
theorem jr_sappS {G : ia_G} {h : ia_H} {d a b v cap mc ms : Nat} {t u : List Int32} (hd : 5 ≤ d) (hB : sx_b h b v cap t) (hT : sx_t h a u) (hk : t.length + u.length ≤ 240) (hr : t.length + u.length ≤ cap ∨ (1 ≤ mc ∧ 480 ≤ ms)) : ia_Cn pg G kk_sb_append_LString d mc ms [.ref b, .ref a] h (fun rv h' => rv = some (.ref b) ∧ ∃ v' cap', sx_b h' b v' cap' (t ++ u) ∧ sx_fr h h' (fun q => q = b ∨ q = v) ∧ h'.2 ≤ h.2 + 1 ∧ ((v' = v ∧ cap' = cap) ∨ (h.2 ≤ v' ∧ 2 * cap + 2 ≤ cap'))) := by
  obtain ⟨m0, f0, hb0, -⟩ := id hB
  refine jd_met (ls := [.ref b, .ref a]) rfl rfl rfl ?_
  refine ia_go 2 rfl ?_
  refine jd_cI b [.ref a] [] mc ms (d' := d - 1) rfl rfl rfl hb0 rfl rfl (by omega) (by omega) (by omega) (jr_appS (by omega) hB hT hk hr) ?_
  rintro rv h' ⟨rfl, v', cap', hB', hR⟩
  refine ia_go 2 rfl ?_
  exact jd_rv1 rfl rfl rfl trivial ⟨rfl, v', cap', hB', hR⟩
theorem jr_set0 {G : ia_G} {h : ia_H} {d b v cap : Nat} {t : List Int32} (hd : 4 ≤ d) (hB : sx_b h b v cap t) : ia_Cn pg G kk_ab_setLength d 0 0 [.ref b, .int 0] h (fun rv h' => rv = none ∧ ∃ v' cap', sx_b h' b v' cap' [] ∧ sx_fr h h' (fun q => q = b) ∧ h'.2 ≤ h.2 + 1 ∧ ((v' = v ∧ cap' = cap) ∨ (h.2 ≤ v' ∧ 2 * cap + 2 ≤ cap'))) := by
  obtain ⟨m0, f0, hb0, -⟩ := id hB
  refine jd_met (ls := [.ref b, .int 0]) rfl rfl rfl ?_
  refine ia_go 2 rfl ?_
  rw [if_pos (by decide)]
  refine ia_go 2 rfl ?_
  refine jd_cV b [.int (nI 0)] [] 0 0 (d' := d - 1) rfl rfl rfl hb0 rfl rfl (by omega) (by omega) (by omega) (jr_ensure (by omega) hB (by omega) (Or.inl (Nat.zero_le _))) ?_
  rintro rv h' ⟨rfl, v', cap', hB', hcap, hfr, hsz, hvv⟩
  refine ia_go 1 rfl ?_
  obtain ⟨m, f, hb, hv, hf, hx, hl, hc, g1, g2, g3, g4, g5, g6⟩ := hB'
  refine ia_getf rfl hb rfl ?_
  refine ia_go 2 rfl ?_
  rw [if_pos (show (0 : Int32) ≤ nI t.length from nI_pos' (by omega))]
  refine ia_go 1 rfl ?_
  refine ia_getf rfl hb rfl ?_
  refine ia_go 2 rfl ?_
  have fin : ∀ (m : Int32) (h2 : ia_H), h2.2 = h'.2 → h2.1 b = some (.inr (9, [.ref v', .int 0, .int m, .int (nI t.length)])) → (∀ q, q ≠ b → h2.1 q = h'.1 q) → ia_Sx pg G kk_ab_setLength d (0 - 0) (0 - 0) 76 [.ref b, .int 0] [] h2 (fun rv h' => rv = none ∧ ∃ v' cap', sx_b h' b v' cap' [] ∧ sx_fr h h' (fun q => q = b) ∧ h'.2 ≤ h.2 + 1 ∧ ((v' = v ∧ cap' = cap) ∨ (h.2 ≤ v' ∧ 2 * cap + 2 ≤ cap'))) := by
    intro m h2 e1 e2 e3
    refine ia_go 2 rfl ?_
    refine ia_putf rfl e2 g1 rfl rfl rfl rfl ?_
    refine jd_rv0 rfl rfl rfl ⟨rfl, v', cap', ⟨m, f, ia_up_same, ((ia_up_ne (Ne.symm g3)).trans (e3 v' (Ne.symm g3))).trans hv, fun j c hj => by simp at hj, hx, Nat.zero_le _, hc, g1, g2, g3, by rw [e1]; exact g4, by rw [e1]; exact g5, fun c hc => by simp at hc⟩, ⟨by rw [e1]; exact hfr.1, fun q hq hS => ((ia_up_ne hS).trans (e3 q hS)).trans (hfr.2 q hq hS)⟩, by rw [e1]; exact hsz, hvv⟩
  by_cases ht : t.length = 0
  · rw [if_pos (show nI t.length ≤ 0 by rw [ht]; decide)]
    exact fin m h' rfl hb (fun _ _ => rfl)
  · rw [if_neg (nI_nle (by omega) (by omega))]
    refine ia_go 2 rfl ?_
    refine ia_putf rfl hb g1 rfl rfl rfl rfl ?_
    exact fin 1 _ rfl ia_up_same (fun q hq => ia_up_ne hq)
theorem jr_sset0 {G : ia_G} {h : ia_H} {d b v cap : Nat} {t : List Int32} (hd : 5 ≤ d) (hB : sx_b h b v cap t) : ia_Cn pg G kk_sb_setLength d 0 0 [.ref b, .int 0] h (fun rv h' => rv = none ∧ ∃ v' cap', sx_b h' b v' cap' [] ∧ sx_fr h h' (fun q => q = b) ∧ h'.2 ≤ h.2 + 1 ∧ ((v' = v ∧ cap' = cap) ∨ (h.2 ≤ v' ∧ 2 * cap + 2 ≤ cap'))) := by
  obtain ⟨m0, f0, hb0, -⟩ := id hB
  refine jd_met (ls := [.ref b, .int 0]) rfl rfl rfl ?_
  refine ia_go 2 rfl ?_
  refine jd_cI b [.int 0] [] 0 0 (d' := d - 1) rfl rfl rfl hb0 rfl rfl (by omega) (by omega) (by omega) (jr_set0 (by omega) hB) ?_
  rintro rv h' ⟨rfl, hR⟩
  exact jd_rv0 rfl rfl rfl ⟨rfl, hR⟩
