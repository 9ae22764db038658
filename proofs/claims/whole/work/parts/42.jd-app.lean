/-! THE JDK'S METHODS, 3: append, setLength. -/
theorem jd_byte {c : Int32} (h0 : 0 ≤ c) (h1 : c ≤ 127) : c.toInt8.toInt32 = c ∧ narrow .byte (.int c) = .int c ∧ fits .byte (.int c) = true ∧ c ≤ 255 := by
  obtain ⟨j, hj, rfl⟩ := nI_of (x := c) (fun h => absurd h (Int32.not_lt.mpr h0))
  have hj2 : j < 128 := by
    have := (nI_leI hj (b := 127) (by decide)).mp h1
    omega
  have key : ∀ k : Fin 128, (nI k.val).toInt8.toInt32 = nI k.val ∧ narrow .byte (.int (nI k.val)) = .int (nI k.val) ∧ fits .byte (.int (nI k.val)) = true ∧ nI k.val ≤ 255 := by decide +kernel
  exact key ⟨j, hj2⟩
theorem jd_canenc {G : ia_G} {h : ia_H} {d : Nat} {c : Int32} (h1 : c ≤ 255) : ia_Cn pg G kk_la_canEncode_C d 0 0 [.int c] h (fun rv h' => rv = some (.int 1) ∧ h' = h) := by
  refine jd_met (ls := [.int c]) rfl rfl rfl ?_
  refine ia_go 3 rfl ?_
  rw [if_neg (Int32.not_lt.mpr h1)]
  refine ia_go 2 rfl ?_
  exact jd_rv1 rfl rfl rfl rfl ⟨rfl, rfl⟩
/-- AbstractStringBuilder.append(char) -/
theorem jd_appC {G : ia_G} {h : ia_H} {d b v cap : Nat} {t : List Int32} {c : Int32} (hd : 4 ≤ d) (hB : sx_b h b v cap t) (hk : t.length < 240) (h0 : 0 ≤ c) (h1 : c ≤ 127) : ia_Cn pg G kk_ab_append_C d 1 480 [.ref b, .int c] h (fun rv h' => rv = some (.ref b) ∧ ∃ v' cap', sx_b h' b v' cap' (t ++ [c]) ∧ sx_fr h h' (fun q => q = b ∨ q = v) ∧ h'.2 ≤ h.2 + 1 ∧ (v' = v ∨ h.2 ≤ v')) := by
  obtain ⟨k1, k2, k3, k4⟩ := jd_byte h0 h1
  obtain ⟨m0, f0, hb0, -⟩ := id hB
  refine jd_met (ls := [.ref b, .int c]) rfl rfl rfl ?_
  refine ia_go 2 rfl ?_
  refine ia_getf rfl hb0 rfl ?_
  refine ia_go 2 rfl ?_
  rw [nI_1]
  refine jd_cV b [.int (nI (t.length + 1))] [] 1 480 (d' := d - 1) rfl rfl rfl hb0 rfl rfl (by omega) (by omega) (by omega) (jd_ensure (by omega) hB (by omega)) ?_
  rintro rv h' ⟨rfl, v', cap', hB', hcap, hfr, hsz, hvv⟩
  refine ia_go 1 rfl ?_
  obtain ⟨m, f, hb, hv, hf, hx, hl, hc, g1, g2, g3, g4, g5, g6⟩ := hB'
  refine jd_cV b [] [] 0 0 (d' := d - 1) rfl rfl rfl hb rfl rfl (by omega) (by omega) (by omega) (jd_latin hb) ?_
  rintro rv h' ⟨rfl, rfl⟩
  refine ia_go 1 rfl ?_
  rw [if_neg (by decide)]
  refine ia_go 1 rfl ?_
  refine jd_cS [.int c] [] 0 0 (d' := d - 1) rfl rfl rfl rfl rfl (by omega) (by omega) (by omega) (jd_canenc k4) ?_
  rintro rv h' ⟨rfl, rfl⟩
  refine ia_go 1 rfl ?_
  rw [if_neg (by decide)]
  refine ia_go 1 rfl ?_
  refine ia_getf rfl hb rfl ?_
  refine ia_go 2 rfl ?_
  refine ia_getf rfl hb rfl ?_
  refine ia_go 3 rfl ?_
  rw [nI_1]
  refine ia_putf rfl hb g1 rfl rfl rfl rfl ?_
  refine ia_go 2 rfl ?_
  rw [k1]
  refine ia_bast rfl ((ia_up_ne (Ne.symm g3)).trans hv) g2 (vp_in_nI (by omega) (by omega)) k2 rfl ?_
  refine ia_go 2 rfl ?_
  rw [nI_clamp (by omega)]
  refine jd_rv1 rfl rfl rfl trivial ⟨rfl, v', cap', ⟨m, updV f t.length (.int c), ?_, ia_up_same, ?_, ?_, ?_, hc, g1, g2, g3, g4, g5, ?_⟩, ?_, hsz, hvv⟩
  · rw [show (ia_up (ia_up h'.1 b _) v' _, h'.2).1 b = ia_up h'.1 b _ b from ia_up_ne g3, ia_up_same]
    rw [List.length_append]; rfl
  · intro j x hj
    by_cases hjt : j < t.length
    · rw [List.getElem?_append_left hjt] at hj
      rw [show updV f t.length (.int c) j = f j from if_neg (by omega)]
      exact hf j x hj
    · rw [List.getElem?_append_right (by omega)] at hj
      have hj0 : j = t.length := by
        have := (List.getElem?_eq_some_iff.mp hj).1
        simp at this; omega
      subst hj0
      rw [Nat.sub_self] at hj
      cases hj
      exact if_pos rfl
  · intro j hj
    by_cases hjt : j = t.length
    · subst hjt; exact ⟨c, if_pos rfl, k3⟩
    · rw [show updV f t.length (.int c) j = f j from if_neg hjt]; exact hx j hj
  · rw [List.length_append]; exact hcap
  · intro x hx9
    rcases List.mem_append.mp hx9 with hx9 | hx9
    · exact g6 x hx9
    · rw [List.mem_singleton.mp hx9]; exact ⟨h0, h1⟩
  · refine ⟨hfr.1, fun q hq hS => ?_⟩
    have hqv : q ≠ v' := fun z => by
      rcases hvv with hvv | hvv
      · exact hS (Or.inr (z.trans hvv))
      · omega
    rw [show (ia_up (ia_up h'.1 b _) v' _, h'.2).1 q = h'.1 q from (ia_up_ne hqv).trans (ia_up_ne fun z => hS (Or.inl z))]
    exact hfr.2 q hq (fun z => hS (Or.inl z))
/-- StringBuilder.append(char) -/
theorem jd_sappC {G : ia_G} {h : ia_H} {d b v cap : Nat} {t : List Int32} {c : Int32} (hd : 5 ≤ d) (hB : sx_b h b v cap t) (hk : t.length < 240) (h0 : 0 ≤ c) (h1 : c ≤ 127) : ia_Cn pg G kk_sb_append_C d 1 480 [.ref b, .int c] h (fun rv h' => rv = some (.ref b) ∧ ∃ v' cap', sx_b h' b v' cap' (t ++ [c]) ∧ sx_fr h h' (fun q => q = b ∨ q = v) ∧ h'.2 ≤ h.2 + 1 ∧ (v' = v ∨ h.2 ≤ v')) := by
  obtain ⟨m0, f0, hb0, -⟩ := id hB
  refine jd_met (ls := [.ref b, .int c]) rfl rfl rfl ?_
  refine ia_go 2 rfl ?_
  refine jd_cI b [.int c] [] 1 480 (d' := d - 1) rfl rfl rfl hb0 rfl rfl (by omega) (by omega) (by omega) (jd_appC (by omega) hB hk h0 h1) ?_
  rintro rv h' ⟨rfl, v', cap', hB', hR⟩
  refine ia_go 2 rfl ?_
  exact jd_rv1 rfl rfl rfl trivial ⟨rfl, v', cap', hB', hR⟩
/-- AbstractStringBuilder.setLength(0) -/
theorem jd_set0 {G : ia_G} {h : ia_H} {d b v cap : Nat} {t : List Int32} (hd : 4 ≤ d) (hB : sx_b h b v cap t) : ia_Cn pg G kk_ab_setLength d 1 480 [.ref b, .int 0] h (fun rv h' => rv = none ∧ ∃ v' cap', sx_b h' b v' cap' [] ∧ sx_fr h h' (fun q => q = b) ∧ h'.2 ≤ h.2 + 1 ∧ (v' = v ∨ h.2 ≤ v')) := by
  obtain ⟨m0, f0, hb0, -⟩ := id hB
  refine jd_met (ls := [.ref b, .int 0]) rfl rfl rfl ?_
  refine ia_go 2 rfl ?_
  rw [if_pos (by decide)]
  refine ia_go 2 rfl ?_
  refine jd_cV b [.int (nI 0)] [] 1 480 (d' := d - 1) rfl rfl rfl hb0 rfl rfl (by omega) (by omega) (by omega) (jd_ensure (by omega) hB (by omega)) ?_
  rintro rv h' ⟨rfl, v', cap', hB', hcap, hfr, hsz, hvv⟩
  refine ia_go 1 rfl ?_
  obtain ⟨m, f, hb, hv, hf, hx, hl, hc, g1, g2, g3, g4, g5, g6⟩ := hB'
  refine ia_getf rfl hb rfl ?_
  refine ia_go 2 rfl ?_
  rw [if_pos (show (0 : Int32) ≤ nI t.length from nI_pos' (by omega))]
  refine ia_go 1 rfl ?_
  refine ia_getf rfl hb rfl ?_
  refine ia_go 2 rfl ?_
  have fin : ∀ (m : Int32) (h2 : ia_H), h2.2 = h'.2 → h2.1 b = some (.inr (9, [.ref v', .int 0, .int m, .int (nI t.length)])) → (∀ q, q ≠ b → h2.1 q = h'.1 q) → ia_Sx pg G kk_ab_setLength d (1 - 1) (480 - 480) 76 [.ref b, .int 0] [] h2 (fun rv h' => rv = none ∧ ∃ v' cap', sx_b h' b v' cap' [] ∧ sx_fr h h' (fun q => q = b) ∧ h'.2 ≤ h.2 + 1 ∧ (v' = v ∨ h.2 ≤ v')) := by
    intro m h2 e1 e2 e3
    refine ia_go 2 rfl ?_
    refine ia_putf rfl e2 g1 rfl rfl rfl rfl ?_
    refine jd_rv0 rfl rfl rfl ⟨rfl, v', cap', ⟨m, f, ia_up_same, ((ia_up_ne (Ne.symm g3)).trans (e3 v' (Ne.symm g3))).trans hv, fun j c hj => by simp at hj, hx, Nat.zero_le _, hc, g1, g2, g3, by rw [e1]; exact g4, by rw [e1]; exact g5, fun c hc => by simp at hc⟩, ⟨by rw [e1]; exact hfr.1, fun q hq hS => ((ia_up_ne hS).trans (e3 q hS)).trans (hfr.2 q hq hS)⟩, by rw [e1]; exact hsz, hvv⟩
  by_cases ht : t.length = 0
  · rw [if_pos (show nI t.length ≤ 0 by rw [ht]; decide)]
    exact fin m h' rfl hb (fun _ _ => rfl)
  · rw [if_neg (nI_nle (by omega) (by omega))]
    refine ia_go 2 rfl ?_
    refine ia_putf rfl hb g1 rfl rfl rfl rfl ?_
    exact fin 1 _ rfl ia_up_same (fun q hq => ia_up_ne hq)
theorem jd_sset0 {G : ia_G} {h : ia_H} {d b v cap : Nat} {t : List Int32} (hd : 5 ≤ d) (hB : sx_b h b v cap t) : ia_Cn pg G kk_sb_setLength d 1 480 [.ref b, .int 0] h (fun rv h' => rv = none ∧ ∃ v' cap', sx_b h' b v' cap' [] ∧ sx_fr h h' (fun q => q = b) ∧ h'.2 ≤ h.2 + 1 ∧ (v' = v ∨ h.2 ≤ v')) := by
  obtain ⟨m0, f0, hb0, -⟩ := id hB
  refine jd_met (ls := [.ref b, .int 0]) rfl rfl rfl ?_
  refine ia_go 2 rfl ?_
  refine jd_cI b [.int 0] [] 1 480 (d' := d - 1) rfl rfl rfl hb0 rfl rfl (by omega) (by omega) (by omega) (jd_set0 (by omega) hB) ?_
  rintro rv h' ⟨rfl, hR⟩
  exact jd_rv0 rfl rfl rfl ⟨rfl, hR⟩
