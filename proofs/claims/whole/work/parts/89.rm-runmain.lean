/-! THE REFERENCE, 30: run, the whole. -/
section RN
variable {G : ia_G} {h0 : ia_H} {d N : Nat} {va vb vc : Int32} {F : Nat → Nat → Int32} {S : Nat → Int32} {gt : Nat → List Int32} {LW K1 K2 V r : Nat → Nat}
theorem cw.k4 {C : List (Nat × Nat × Nat)} (h : cw F C gt) {a : Nat} (ha : a < C.length) : (kn C a).1 ≤ 4 := by
  rcases h.2 a ha with h | ⟨h, -⟩ | ⟨h, -⟩ | ⟨h, -⟩ <;> omega
theorem cw.keep {F' : Nat → Nat → Int32} {C : List (Nat × Nat × Nat)} (h : cw F C gt) (hf : ∀ k j, k < 18 → F' k j = F k j) : cw F' C gt := by
  refine ⟨h.1, fun a ha => ?_⟩
  rcases h.2 a ha with h | ⟨h1, h2, h3, h4, h5, h6⟩ | ⟨h1, h2, h3, h4, h5, h6⟩ | h
  · exact Or.inl h
  · exact Or.inr (Or.inl ⟨h1, h2, h3, h4, h5.keep (fun j hj => hf 11 _ (by decide)) (hf 12 _ (by decide)), h6⟩)
  · exact Or.inr (Or.inr (Or.inl ⟨h1, h2, h3, h4, h5.keep (fun j hj => hf 11 _ (by decide)) (hf 12 _ (by decide)), h6⟩))
  · exact Or.inr (Or.inr (Or.inr h))
theorem rr_lt {C : List (Nat × Nat × Nat)} (h : cw F C gt) : ∀ (m a : Nat) (st : Nat → Int32) (dn : Nat), a < C.length → (rr C gt m a st dn).2.1 < C.length := by
  intro m
  induction m with
  | zero => intro a st dn ha; exact ha
  | succ m ih =>
    intro a st dn ha
    unfold rr
    split
    · exact ha
    next h4 =>
      refine ih _ _ _ ?_
      unfold ra
      rcases h.2 a ha with e | ⟨e1, e2, e3, -⟩ | ⟨e1, e2, e3, -⟩ | ⟨e1, e2⟩
      · exact absurd e h4
      · rw [if_neg (by omega), if_neg (by omega)]; exact e3
      · rw [if_neg (by omega)]
        split
        · exact e2
        · exact e3
      · rw [if_pos e1]; exact e2
/-- run -/
theorem rm_run {x : Int32} (hd : 4 ≤ d) (hm : rm h0 F S) (hk : F 2 1 ≠ 0 → kd F LW K1 K2 V r) (hlen : F 2 1 ≠ 0 → (cd LW K1 K2 V 16 1 0).length ≤ 32) (hw : F 2 1 ≠ 0 → cw F (pgm LW K1 K2 V) gt) : ia_Cn pg G kk_M_run d 0 0 [.ref 117, .int va, .int vb, .int vc, .int x] h0 (fun rv h' => (¬ isp F ∧ rv = some (.int (-2)) ∧ h' = h0) ∨ (isp F ∧ (¬ ∃ N, N ≤ 1000 ∧ x = nI N) ∧ rv = some (.int (-1)) ∧ ∃ F', pb h0 h' F S F' (pgm LW K1 K2 V).length 0 ∧ cr F' 0 (pgm LW K1 K2 V)) ∨ (isp F ∧ ∃ N, N ≤ 1000 ∧ x = nI N ∧ rn_Q h0 F S (pgm LW K1 K2 V) (rr (pgm LW K1 K2 V) gt N 0 (rn_0 va vb vc) 0) rv h')) := by
  refine jd_met (ls := [.ref 117, .int va, .int vb, .int vc, .int x, .retAddr 0, .retAddr 0, .retAddr 0]) rfl rfl rfl ?_
  refine ia_go 1 rfl ?_
  refine jd_cV 117 [] [] 0 0 (d' := d - 1) rfl rfl rfl hm.1 rfl rfl (by omega) (by omega) (by omega) (rm_isProgram (by omega) hm hk hlen) ?_
  rintro rv h2 (⟨hno, rfl, hh⟩ | ⟨hyes, rfl, Fp, hp, hc⟩)
  · subst hh
    refine ia_go 1 rfl ?_
    rw [if_neg (fun z => z rfl)]
    refine ia_go 1 rfl ?_
    exact jd_rv1 rfl rfl rfl trivial (Or.inl ⟨hno, rfl, rfl⟩)
  have hl := hlen hyes.1
  have hcw := hw hyes.1
  have hpl : (pgm LW K1 K2 V).length = (cd LW K1 K2 V 16 1 0).length + 1 := by unfold pgm; simp
  have hp0 := hp
  obtain ⟨Sp, g1, g2, g3, g4, g5⟩ := hp
  by_cases x0 : x < 0
  ·
    refine ia_go 1 rfl ?_
    rw [if_pos (by decide)]
    refine ia_go 2 rfl ?_
    rw [if_pos x0]
    refine ia_go 1 rfl ?_
    exact jd_rv1 rfl rfl rfl trivial (Or.inr (Or.inl ⟨hyes, by rintro ⟨N, hN, rfl⟩; exact absurd x0 (nI_pos (by omega)), rfl, Fp, hp0, hc⟩))
  by_cases x1 : x ≤ 1000
  case neg =>
    refine ia_go 1 rfl ?_
    rw [if_pos (by decide)]
    refine ia_go 2 rfl ?_
    rw [if_neg x0]
    refine ia_go 3 rfl ?_
    rw [if_neg x1]
    refine ia_go 1 rfl ?_
    exact jd_rv1 rfl rfl rfl trivial (Or.inr (Or.inl ⟨hyes, by rintro ⟨N, hN, rfl⟩; exact x1 (nI_le (b := 1000) hN (by omega)), rfl, Fp, hp0, hc⟩))
  obtain ⟨N, hN, rfl⟩ := nI_of2 (M := 1000) (n := 1000) (by decide) x0 x1
  have hcp : cw Fp (pgm LW K1 K2 V) gt := hcw.keep (fun k j hk => g2 k j (Or.inl hk))
  refine ia_go 1 rfl ?_
  rw [if_pos (by decide)]
  refine ia_go 2 rfl ?_
  rw [if_neg x0]
  refine ia_go 3 rfl ?_
  rw [if_pos x1]
  refine ia_go 1 rfl ?_
  refine ia_getf rfl g1.1.1 rfl ?_
  refine ia_go 4 rfl ?_
  refine rm_st (K := 16) (i := 0) rfl g1 (by decide) rfl (by decide) (by decide) (fun h3 g1 => ?_)
  refine ia_go 1 rfl ?_
  refine ia_getf rfl g1.1.1 rfl ?_
  refine ia_go 4 rfl ?_
  refine rm_st (K := 16) (i := 1) rfl g1 (by decide) rfl (by decide) (by decide) (fun h3 g1 => ?_)
  refine ia_go 1 rfl ?_
  refine ia_getf rfl g1.1.1 rfl ?_
  refine ia_go 4 rfl ?_
  refine rm_st (K := 16) (i := 2) rfl g1 (by decide) rfl (by decide) (by decide) (fun h3 g1 => ?_)
  refine ia_go 1 rfl ?_
  refine ia_getf rfl g1.1.1 rfl ?_
  refine ia_go 2 rfl ?_
  refine rm_st (K := 16) (i := 3) rfl g1 (by decide) rfl (by decide) (by decide) (fun h3 g1 => ?_)
  refine ia_go 1 rfl ?_
  refine ia_getf rfl g1.1.1 rfl ?_
  refine ia_go 2 rfl ?_
  refine rm_st (K := 16) (i := 4) rfl g1 (by decide) rfl (by decide) (by decide) (fun h3 g1 => ?_)
  refine ia_go 2 rfl ?_
  dsimp only [ia_s1, ia_s2, ia_cl, ia_D, List.getElem?_cons_zero, List.getElem?_cons_succ, List.set_cons_zero, List.set_cons_succ]
  refine ia_go 2 rfl ?_
  dsimp only [ia_s1, ia_s2, ia_cl, ia_D, List.getElem?_cons_zero, List.getElem?_cons_succ, List.set_cons_zero, List.set_cons_succ]
  refine rm_rnloop (F := Fp) (S := Sp) (C := pgm LW K1 K2 V) (gt := gt) (res := rr (pgm LW K1 K2 V) gt N 0 (rn_0 va vb vc) 0) (by omega) hN hc hcp (fun h' F' z7 a1 a2 a3 => ?_) N 0 (rn_0 va vb vc) 0 (by omega) (by omega) rfl h3 _ _ ⟨Sp, g1, fun k j k1 k2 => ?_, fun _ _ => rfl, fun j hj => ?_, ?_, ?_⟩ (Or.inl rfl)
  · refine ia_Sx.mono (rm_rnend (F := F) (S := S) (C := pgm LW K1 K2 V) a1 a2 hcp.1 (hcp.k4 a2) a3 hc g2 g5) ?_
    intro rv h' hq
    exact Or.inr (Or.inr ⟨hyes, N, hN, rfl, hq⟩)
  · rw [rm_uk k2, rm_uk k2, rm_uk k2, rm_uk k2, rm_uk k2]
  · have hjs : j = 0 ∨ j = 1 ∨ j = 2 := by omega
    rcases hjs with rfl | rfl | rfl <;> rfl
  · rfl
  · rfl
end RN
