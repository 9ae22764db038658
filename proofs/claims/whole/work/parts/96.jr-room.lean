/-! THE JDK'S METHODS, 6: StringBuilder, with the room that is needed: none where it fits. -/
theorem jr_ensure {G : ia_G} {h : ia_H} {d b v cap k mc ms : Nat} {t : List Int32} (hd : 3 ≤ d) (hB : sx_b h b v cap t) (hk : k ≤ 240) (hr : k ≤ cap ∨ (1 ≤ mc ∧ 480 ≤ ms)) : ia_Cn pg G kk_ab_ensureCapacityInternal d mc ms [.ref b, .int (nI k)] h (fun rv h' => rv = none ∧ ∃ v' cap', sx_b h' b v' cap' t ∧ k ≤ cap' ∧ sx_fr h h' (fun q => q = b) ∧ h'.2 ≤ h.2 + 1 ∧ ((v' = v ∧ cap' = cap) ∨ (h.2 ≤ v' ∧ 2 * cap + 2 ≤ cap'))) := by
  obtain ⟨m, f, hb, hv, hf, hx, hl, hc, g1, g2, g3, g4, g5, g6⟩ := hB
  refine jd_met (ls := [.ref b, .int (nI k), .retAddr 0]) rfl rfl rfl ?_
  refine ia_go 1 rfl ?_
  refine ia_getf rfl hb rfl ?_
  refine jd_alen rfl hv ?_
  refine ia_go 1 rfl ?_
  refine ia_getf rfl hb rfl ?_
  refine ia_go 2 rfl ?_
  dsimp only [ia_s1, ia_s2, ia_cl, ia_D, List.getElem?_cons_zero, List.getElem?_cons_succ, List.set_cons_zero, List.set_cons_succ]
  refine ia_go 4 rfl ?_
  rw [jd_sh0]
  by_cases hkc : k ≤ cap
  · rw [if_pos (show nI k - nI cap ≤ 0 by rw [Int32.le_iff_toInt_le, jd_subI (by omega) (by omega)]; show (k : Int) - cap ≤ 0; omega)]
    exact jd_rv0 rfl rfl rfl ⟨rfl, v, cap, ⟨m, f, hb, hv, hf, hx, hl, hc, g1, g2, g3, g4, g5, g6⟩, hkc, sx_fr.rf, by omega, Or.inl ⟨rfl, rfl⟩⟩
  · rw [jd_sub (by omega)]
    rw [if_neg (nI_nle (by omega) (by omega))]
    refine ia_go 2 rfl ?_
    refine ia_getf rfl hb rfl ?_
    refine ia_go 2 rfl ?_
    refine jd_cV b [.int (nI k)] [.ref v, .ref b] 0 0 (d' := d - 1) rfl rfl rfl hb rfl rfl (by omega) (by omega) (by omega) (jd_newcap (by omega) hb hv hc (by omega) (by omega)) ?_
    rintro rv h' ⟨rfl, rfl⟩
    refine ia_go 1 rfl ?_
    refine ia_getf rfl hb rfl ?_
    refine ia_go 1 rfl ?_
    rw [jd_sl0]
    refine jd_cS [.ref v, .int (nI (cap + max (k - cap) (cap + 2)))] [.ref b] 1 (cap + max (k - cap) (cap + 2)) (d' := d - 1) rfl rfl rfl rfl rfl (by omega) (by omega) (by omega) (jd_copyOf (by omega) hv hx (by omega) (by omega) (by omega) (by omega)) ?_
    rintro rv h' ⟨rfl, rfl⟩
    have hb' : ia_up h'.1 h'.2 (.inl (.byte, cap + max (k - cap) (cap + 2), va_cpy f (fun _ => .int 0) 0 0 cap)) b = some (.inr (9, [.ref v, .int 0, .int m, .int (nI t.length)])) := (ia_up_ne (by omega)).trans hb
    refine ia_putf rfl hb' g1 rfl rfl rfl rfl ?_
    refine jd_rv0 rfl rfl rfl ⟨rfl, h'.2, cap + max (k - cap) (cap + 2), ⟨m, va_cpy f (fun _ => .int 0) 0 0 cap, ia_up_same, (ia_up_ne (by omega)).trans ia_up_same, ?_, ?_, by omega, by omega, g1, by omega, by omega, by show b < h'.2 + 1; omega, by show h'.2 < h'.2 + 1; omega, g6⟩, by omega, ⟨by show h'.2 ≤ h'.2 + 1; omega, fun q hq hS => ?_⟩, by show h'.2 + 1 ≤ h'.2 + 1; omega, Or.inr ⟨Nat.le_refl _, by omega⟩⟩
    · intro j c hj
      have hj2 : j < t.length := (List.getElem?_eq_some_iff.mp hj).1
      unfold va_cpy
      rw [if_pos ⟨by omega, by omega⟩]
      have := hf j c hj
      rw [show 0 + (j - 0) = j by omega]; exact this
    · intro j hj
      unfold va_cpy
      by_cases hjc : 0 ≤ j ∧ j < 0 + cap
      · rw [if_pos hjc, show 0 + (j - 0) = j by omega]; exact hx j (by omega)
      · rw [if_neg hjc]; exact ⟨0, rfl, rfl⟩
    · rw [show (ia_up (ia_up h'.1 h'.2 _) b _, h'.2 + 1).1 q = ia_up h'.1 h'.2 _ q from ia_up_ne hS]
      exact ia_up_ne (by omega)
theorem jr_appC {G : ia_G} {h : ia_H} {d b v cap mc ms : Nat} {t : List Int32} {c : Int32} (hd : 4 ≤ d) (hB : sx_b h b v cap t) (hk : t.length < 240) (hr : t.length + 1 ≤ cap ∨ (1 ≤ mc ∧ 480 ≤ ms)) (h0 : 0 ≤ c) (h1 : c ≤ 127) : ia_Cn pg G kk_ab_append_C d mc ms [.ref b, .int c] h (fun rv h' => rv = some (.ref b) ∧ ∃ v' cap', sx_b h' b v' cap' (t ++ [c]) ∧ sx_fr h h' (fun q => q = b ∨ q = v) ∧ h'.2 ≤ h.2 + 1 ∧ ((v' = v ∧ cap' = cap) ∨ (h.2 ≤ v' ∧ 2 * cap + 2 ≤ cap'))) := by
  obtain ⟨k1, k2, k3, k4⟩ := jd_byte h0 h1
  obtain ⟨m0, f0, hb0, -⟩ := id hB
  refine jd_met (ls := [.ref b, .int c]) rfl rfl rfl ?_
  refine ia_go 2 rfl ?_
  refine ia_getf rfl hb0 rfl ?_
  refine ia_go 2 rfl ?_
  rw [nI_1]
  refine jd_cV b [.int (nI (t.length + 1))] [] mc ms (d' := d - 1) rfl rfl rfl hb0 rfl rfl (by omega) (by omega) (by omega) (jr_ensure (by omega) hB (by omega) hr) ?_
  rintro rv h' ⟨rfl, v', cap', hB', hcap, hfr, hsz, hvv⟩
  refine ia_go 1 rfl ?_
  obtain ⟨m, f, hb, hv, hf, hx, hl, hc, g1, g2, g3, g4, g5, g6⟩ := hB'
  refine jd_cV b [] [] 0 0 (d' := d - 1) rfl rfl rfl hb rfl rfl (by omega) (by omega) (by omega) (jd_latin hb) ?_
  rintro rv h' ⟨rfl, rfl⟩
  refine ia_go 1 rfl ?_
  rw [if_neg (by decide)]
  refine ia_go 1 rfl ?_
  refine jd_cS [.int c] [] 0 0 (d' := d - 1) rfl rfl rfl rfl rfl (by omega) (by omega) (by omega) (jd_canenc k4) ?_
  rintro rv h' ⟨rfl, rfl⟩
  refine ia_go 1 rfl ?_
  rw [if_neg (by decide)]
  refine ia_go 1 rfl ?_
  refine ia_getf rfl hb rfl ?_
  refine ia_go 2 rfl ?_
  refine ia_getf rfl hb rfl ?_
  refine ia_go 3 rfl ?_
  rw [nI_1]
  refine ia_putf rfl hb g1 rfl rfl rfl rfl ?_
  refine ia_go 2 rfl ?_
  rw [k1]
  refine ia_bast rfl ((ia_up_ne (Ne.symm g3)).trans hv) g2 (vp_in_nI (by omega) (by omega)) k2 rfl ?_
  refine ia_go 2 rfl ?_
  rw [nI_clamp (by omega)]
  refine jd_rv1 rfl rfl rfl trivial ⟨rfl, v', cap', ⟨m, updV f t.length (.int c), ?_, ia_up_same, ?_, ?_, ?_, hc, g1, g2, g3, g4, g5, ?_⟩, ?_, hsz, hvv⟩
  · rw [show (ia_up (ia_up h'.1 b _) v' _, h'.2).1 b = ia_up h'.1 b _ b from ia_up_ne g3, ia_up_same]
    rw [List.length_append]; rfl
  · intro j x hj
    by_cases hjt : j < t.length
    · rw [List.getElem?_append_left hjt] at hj
      rw [show updV f t.length (.int c) j = f j from if_neg (by omega)]
      exact hf j x hj
    · rw [List.getElem?_append_right (by omega)] at hj
      have hj0 : j = t.length := by
        have := (List.getElem?_eq_some_iff.mp hj).1
        simp at this; omega
      subst hj0
      rw [Nat.sub_self] at hj
      cases hj
      exact if_pos rfl
  · intro j hj
    by_cases hjt : j = t.length
    · subst hjt; exact ⟨c, if_pos rfl, k3⟩
    · rw [show updV f t.length (.int c) j = f j from if_neg hjt]; exact hx j hj
  · rw [List.length_append]; exact hcap
  · intro x hx9
    rcases List.mem_append.mp hx9 with hx9 | hx9
    · exact g6 x hx9
    · rw [List.mem_singleton.mp hx9]; exact ⟨h0, h1⟩
  · refine ⟨hfr.1, fun q hq hS => ?_⟩
    have hqv : q ≠ v' := fun z => by
      rcases hvv with hvv | hvv
      · exact hS (Or.inr (z.trans hvv.1))
      · omega
    rw [show (ia_up (ia_up h'.1 b _) v' _, h'.2).1 q = h'.1 q from (ia_up_ne hqv).trans (ia_up_ne fun z => hS (Or.inl z))]
    exact hfr.2 q hq (fun z => hS (Or.inl z))
theorem jr_sappC {G : ia_G} {h : ia_H} {d b v cap mc ms : Nat} {t : List Int32} {c : Int32} (hd : 5 ≤ d) (hB : sx_b h b v cap t) (hk : t.length < 240) (hr : t.length + 1 ≤ cap ∨ (1 ≤ mc ∧ 480 ≤ ms)) (h0 : 0 ≤ c) (h1 : c ≤ 127) : ia_Cn pg G kk_sb_append_C d mc ms [.ref b, .int c] h (fun rv h' => rv = some (.ref b) ∧ ∃ v' cap', sx_b h' b v' cap' (t ++ [c]) ∧ sx_fr h h' (fun q => q = b ∨ q = v) ∧ h'.2 ≤ h.2 + 1 ∧ ((v' = v ∧ cap' = cap) ∨ (h.2 ≤ v' ∧ 2 * cap + 2 ≤ cap'))) := by
  obtain ⟨m0, f0, hb0, -⟩ := id hB
  refine jd_met (ls := [.ref b, .int c]) rfl rfl rfl ?_
  refine ia_go 2 rfl ?_
  refine jd_cI b [.int c] [] mc ms (d' := d - 1) rfl rfl rfl hb0 rfl rfl (by omega) (by omega) (by omega) (jr_appC (by omega) hB hk hr h0 h1) ?_
  rintro rv h' ⟨rfl, v', cap', hB', hR⟩
  refine ia_go 2 rfl ?_
  exact jd_rv1 rfl rfl rfl trivial ⟨rfl, v', cap', hB', hR⟩
