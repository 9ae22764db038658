/-! THE JDK'S METHODS, 5: toString, the builder's constructor, indexOf. -/
theorem jd_sinit2 {G : ia_G} {h : ia_H} {d a b v cap : Nat} {t : List Int32} (hd : 3 ≤ d) (ha : h.1 a = some (.inr (10, [.null, .int 0, .int 0, .int 0]))) (h64 : 64 ≤ a) (hal : a < h.2) (hB : sx_b h b v cap t) : ia_Cn pg G kk_st_init_LAbstractStringBuilderLVoid d 1 480 [.ref a, .ref b, .null] h (fun rv h' => rv = none ∧ ∃ g : Nat → Value, h' = (ia_up (ia_up h.1 h.2 (.inl (.byte, t.length, g))) a (.inr (10, [.ref h.2, .int 0, .int 0, .int 0])), h.2 + 1) ∧ ∀ j c, t[j]? = some c → g j = .int c) := by
  obtain ⟨m, f, hb, hv, hf, hx, hl, hc, g1, g2, g3, g4, g5, g6⟩ := hB
  have hab : a ≠ b := fun z => by rw [z, hb] at ha; cases ha
  have hav : a ≠ v := fun z => by rw [z, hv] at ha; cases ha
  refine jd_met (ls := [.ref a, .ref b, .null, .retAddr 0, .retAddr 0]) rfl rfl rfl ?_
  refine ia_go 1 rfl ?_
  refine ia_obj pg_ok.2 rfl (Nat.le_of_ble_eq_true rfl) (by omega) ?_
  refine ia_go 1 rfl ?_
  refine jd_cV b [] [] 0 0 (d' := d - 1) rfl rfl rfl hb rfl rfl (by omega) (by omega) (by omega) (jd_value hb) ?_
  rintro rv h' ⟨rfl, rfl⟩
  refine ia_go 1 rfl ?_
  dsimp only [ia_s1, ia_s2, ia_cl, ia_D, List.getElem?_cons_zero, List.getElem?_cons_succ, List.set_cons_zero, List.set_cons_succ]
  refine ia_go 1 rfl ?_
  refine jd_cV b [] [] 0 0 (d' := d - 1) rfl rfl rfl hb rfl rfl (by omega) (by omega) (by omega) (jd_sbcount (by omega) hb) ?_
  rintro rv h' ⟨rfl, rfl⟩
  refine ia_go 1 rfl ?_
  dsimp only [ia_s1, ia_s2, ia_cl, ia_D, List.getElem?_cons_zero, List.getElem?_cons_succ, List.set_cons_zero, List.set_cons_succ]
  refine ia_go 1 rfl ?_
  refine jd_cV b [] [] 0 0 (d' := d - 1) rfl rfl rfl hb rfl rfl (by omega) (by omega) (by omega) (jd_latin hb) ?_
  rintro rv h' ⟨rfl, rfl⟩
  refine ia_go 1 rfl ?_
  rw [if_neg (by decide)]
  refine ia_go 2 rfl ?_
  refine ia_putf rfl ha h64 rfl rfl rfl rfl ?_
  refine ia_go 4 rfl ?_
  refine jd_cS [.ref v, .int 0, .int (nI t.length)] [.ref a] 1 t.length (d' := d - 1) rfl rfl rfl rfl rfl (by omega) (by omega) (by omega) (jd_copyR (by omega) ((ia_up_ne (Ne.symm hav)).trans hv) hx hl hc g2 g5) ?_
  rintro rv h2 ⟨rfl, g, rfl, hg⟩
  refine ia_putf rfl ((ia_up_ne (Nat.ne_of_lt hal)).trans ia_up_same) h64 rfl rfl rfl rfl ?_
  refine ia_go 1 rfl ?_
  refine jd_rv0 rfl rfl rfl ⟨rfl, g, ?_, fun j c hj => (hg j (List.getElem?_eq_some_iff.mp hj).1).trans (hf j c hj)⟩
  show (ia_up (ia_up (ia_up h'.1 a _) h'.2 _) a _, _) = _
  congr 1
  funext q
  by_cases hq : q = a
  · subst hq; rw [ia_up_same, ia_up_same]; rfl
  · rw [ia_up_ne hq, ia_up_ne hq]
    by_cases hq2 : q = h'.2
    · subst hq2; rw [ia_up_same, ia_up_same]
    · rw [ia_up_ne hq2, ia_up_ne hq2, ia_up_ne hq]
theorem jd_sinit {G : ia_G} {h : ia_H} {d a b v cap : Nat} {t : List Int32} (hd : 4 ≤ d) (ha : h.1 a = some (.inr (10, [.null, .int 0, .int 0, .int 0]))) (h64 : 64 ≤ a) (hal : a < h.2) (hB : sx_b h b v cap t) : ia_Cn pg G kk_st_init_LStringBuilder d 1 480 [.ref a, .ref b] h (fun rv h' => rv = none ∧ ∃ g : Nat → Value, h' = (ia_up (ia_up h.1 h.2 (.inl (.byte, t.length, g))) a (.inr (10, [.ref h.2, .int 0, .int 0, .int 0])), h.2 + 1) ∧ ∀ j c, t[j]? = some c → g j = .int c) := by
  refine jd_met (ls := [.ref a, .ref b]) rfl rfl rfl ?_
  refine ia_go 3 rfl ?_
  refine jd_cI a [.ref b, .null] [] 1 480 (d' := d - 1) rfl rfl rfl ha rfl rfl (by omega) (by omega) (by omega) (jd_sinit2 (by omega) ha h64 hal hB) ?_
  rintro rv h' ⟨rfl, hg⟩
  exact jd_rv0 rfl rfl rfl ⟨rfl, hg⟩
/-- StringBuilder.toString -/
theorem jd_tos {G : ia_G} {h : ia_H} {d b v cap : Nat} {t : List Int32} (hd : 5 ≤ d) (hB : sx_b h b v cap t) : ia_Cn pg G kk_sb_toString d 2 484 [.ref b] h (fun rv h' => rv = some (.ref h.2) ∧ sx_t h' h.2 t ∧ sx_fr h h' (fun _ => False) ∧ h'.2 = h.2 + 2) := by
  obtain ⟨m, f, hb, hv, hf, hx, hl, hc, g1, g2, g3, g4, g5, g6⟩ := hB
  refine jd_met (ls := [.ref b]) rfl rfl rfl ?_
  refine ia_new rfl rfl rfl (bc' := 1) (bs' := 480) (by omega) (by show 480 + 4 ≤ 484; omega) ?_
  refine ia_go 2 rfl ?_
  have hB2 : sx_b (ia_up h.1 h.2 (.inr (10, [.null, .int 0, .int 0, .int 0])), h.2 + 1) b v cap t := ⟨m, f, (ia_up_ne (Nat.ne_of_lt g4)).trans hb, (ia_up_ne (Nat.ne_of_lt g5)).trans hv, hf, hx, hl, hc, g1, g2, g3, Nat.lt_succ_of_lt g4, Nat.lt_succ_of_lt g5, g6⟩
  refine jd_cI h.2 [.ref b] [.ref h.2] 1 480 (d' := d - 1) rfl rfl rfl (fs := [.null, .int 0, .int 0, .int 0]) ia_up_same rfl rfl (by omega) (by omega) (by omega) (jd_sinit (by omega) ia_up_same (by omega) (Nat.lt_succ_self _) hB2) ?_
  rintro rv h' ⟨rfl, g, rfl, hg⟩
  refine jd_rv1 rfl rfl rfl trivial ⟨rfl, ⟨h.2 + 1, [.int 0, .int 0], g, ia_up_same, ?_, hg, g6, by omega, ?_, ?_⟩, ⟨?_, fun q hq _ => ?_⟩, rfl⟩
  · exact (ia_up_ne (by show h.2 + 1 ≠ h.2; omega)).trans ia_up_same
  · show h.2 < h.2 + 1 + 1; omega
  · show h.2 + 1 < h.2 + 1 + 1; omega
  · show h.2 ≤ h.2 + 1 + 1; omega
  · exact ((ia_up_ne (Nat.ne_of_lt hq)).trans (ia_up_ne (by show q ≠ h.2 + 1; omega))).trans (ia_up_ne (Nat.ne_of_lt hq))
/-- the builder's constructors -/
theorem jd_abinit {G : ia_G} {h : ia_H} {d b : Nat} (hd : 1 ≤ d) (hb : h.1 b = some (.inr (9, [.null, .int 0, .int 0, .int 0]))) (h64 : 64 ≤ b) (hbl : b < h.2) : ia_Cn pg G kk_ab_init d 1 16 [.ref b, .int 16] h (fun rv h' => rv = none ∧ h' = (ia_up (ia_up h.1 h.2 (.inl (.byte, 16, fun _ => .int 0))) b (.inr (9, [.ref h.2, .int 0, .int 0, .int 0])), h.2 + 1)) := by
  refine jd_met (ls := [.ref b, .int 16]) rfl rfl rfl ?_
  refine ia_go 1 rfl ?_
  refine ia_obj pg_ok.2 rfl (Nat.le_of_ble_eq_true rfl) (by omega) ?_
  refine ia_gets rfl ?_
  refine ia_go 1 rfl ?_
  rw [if_neg (by decide)]
  refine ia_go 2 rfl ?_
  refine ia_newa rfl rfl rfl (N := 16) (bc' := 0) (bs' := 0) (by decide) (by decide) (by decide) (by omega) (by omega) ?_
  refine ia_putf rfl ((ia_up_ne (Nat.ne_of_lt hbl)).trans hb) h64 rfl rfl rfl rfl ?_
  refine ia_go 2 rfl ?_
  refine ia_putf rfl ia_up_same h64 rfl rfl rfl rfl ?_
  refine ia_go 1 rfl ?_
  refine jd_rv0 rfl rfl rfl ⟨rfl, ?_⟩
  show (ia_up (ia_up (ia_up h.1 h.2 _) b _) b _, _) = _
  congr 1
  funext q
  by_cases hq : q = b
  · subst hq; rw [ia_up_same, ia_up_same]; rfl
  · rw [ia_up_ne hq, ia_up_ne hq, ia_up_ne hq]; rfl
theorem jd_sbinit {G : ia_G} {h : ia_H} {d b : Nat} (hd : 2 ≤ d) (hb : h.1 b = some (.inr (9, [.null, .int 0, .int 0, .int 0]))) (h64 : 64 ≤ b) (hbl : b < h.2) : ia_Cn pg G kk_sb_init d 1 16 [.ref b] h (fun rv h' => rv = none ∧ h' = (ia_up (ia_up h.1 h.2 (.inl (.byte, 16, fun _ => .int 0))) b (.inr (9, [.ref h.2, .int 0, .int 0, .int 0])), h.2 + 1)) := by
  refine jd_met (ls := [.ref b]) rfl rfl rfl ?_
  refine ia_go 2 rfl ?_
  refine jd_cI b [.int 16] [] 1 16 (d' := d - 1) rfl rfl rfl hb rfl rfl (by omega) (by omega) (by omega) (jd_abinit (by omega) hb h64 hbl) ?_
  rintro rv h' ⟨rfl, rfl⟩
  exact jd_rv0 rfl rfl rfl ⟨rfl, rfl⟩
/-- indexOf('x'): is it there? -/
theorem jd_canencI {G : ia_G} {h : ia_H} {d : Nat} : ia_Cn pg G kk_la_canEncode_I d 0 0 [.int 120] h (fun rv h' => rv = some (.int 1) ∧ h' = h) := by
  refine jd_met (ls := [.int 120]) rfl rfl rfl ?_
  refine ia_go 2 rfl ?_
  rw [if_neg (by decide)]
  refine ia_go 3 rfl ?_
  rw [if_neg (by decide)]
  refine ia_go 2 rfl ?_
  exact jd_rv1 rfl rfl rfl rfl ⟨rfl, rfl⟩
theorem jd_idxloop {G : ia_G} {h : ia_H} {d v n : Nat} {f : Nat → Value} {t : List Int32} (hv : h.1 v = some (.inl (.byte, n, f))) (hn : n < 2 ^ 30) (hl : t.length = n) (hf : ∀ j c, t[j]? = some c → f j = .int c) : ∀ (k i : Nat), i + k = n → (∀ c ∈ t.take i, c ≠ 120) → ia_Sx pg G kk_la_indexOfChar d 0 0 7 [.ref v, .int 120, .int 0, .int (nI n), .int 120, .int (nI i)] [] h (fun rv h' => (∃ r : Int32, rv = some (.int r) ∧ (0 ≤ r ↔ (120 : Int32) ∈ t)) ∧ h' = h) := by
  intro k
  induction k with
  | zero =>
    intro i hi hno
    refine ia_go 3 rfl ?_
    rw [if_pos (show nI n ≤ nI i from nI_le (by omega) (by omega))]
    refine ia_go 1 rfl ?_
    exact jd_rv1 rfl rfl rfl trivial ⟨⟨-1, rfl, by rw [List.take_of_length_le (by omega)] at hno; exact ⟨fun z => absurd z (by decide), fun z => absurd rfl (hno _ z)⟩⟩, rfl⟩
  | succ k ih =>
    intro i hi hno
    have hit : i < t.length := by omega
    have hfi := hf i t[i] (List.getElem?_eq_getElem hit)
    refine ia_go 3 rfl ?_
    rw [if_neg (show ¬ nI n ≤ nI i from nI_ge (by omega) (by omega))]
    refine ia_go 2 rfl ?_
    refine ia_bald rfl hv (vp_in_nI (by omega) (by omega)) (v := .int t[i]) (by rw [nI_clamp (by omega)]; exact hfi) ?_
    refine ia_go 2 rfl ?_
    by_cases hc : t[i] = 120
    · rw [if_neg (fun z => z hc)]
      refine ia_go 1 rfl ?_
      exact jd_rv1 rfl rfl rfl trivial ⟨⟨nI i, rfl, ⟨fun _ => by rw [← hc]; exact List.getElem_mem hit, fun _ => nI_pos' (by omega)⟩⟩, rfl⟩
    · rw [if_pos hc]
      refine ia_go 1 rfl ?_
      dsimp only [ia_s1, ia_s2, ia_cl, ia_D, List.getElem?_cons_zero, List.getElem?_cons_succ, List.set_cons_zero, List.set_cons_succ]
      refine ia_go 1 rfl ?_
      rw [show nI i + Int32.ofInt 1 = nI (i + 1) from nI_1 i]
      refine ih (i + 1) (by omega) (fun c hc2 => ?_)
      rw [List.take_succ_eq_append_getElem hit] at hc2
      rcases List.mem_append.mp hc2 with hc2 | hc2
      · exact hno c hc2
      · rw [List.mem_singleton.mp hc2]; exact hc
theorem jd_idxC {G : ia_G} {h : ia_H} {d v n : Nat} {f : Nat → Value} {t : List Int32} (hv : h.1 v = some (.inl (.byte, n, f))) (hn : n < 2 ^ 30) (hl : t.length = n) (hf : ∀ j c, t[j]? = some c → f j = .int c) : ia_Cn pg G kk_la_indexOfChar d 0 0 [.ref v, .int 120, .int 0, .int (nI n)] h (fun rv h' => (∃ r : Int32, rv = some (.int r) ∧ (0 ≤ r ↔ (120 : Int32) ∈ t)) ∧ h' = h) := by
  refine jd_met (ls := [.ref v, .int 120, .int 0, .int (nI n), .retAddr 0, .retAddr 0]) rfl rfl rfl ?_
  refine ia_go 3 rfl ?_
  dsimp only [ia_s1, ia_s2, ia_cl, ia_D, List.getElem?_cons_zero, List.getElem?_cons_succ, List.set_cons_zero, List.set_cons_succ]
  refine ia_go 2 rfl ?_
  dsimp only [ia_s1, ia_s2, ia_cl, ia_D, List.getElem?_cons_zero, List.getElem?_cons_succ, List.set_cons_zero, List.set_cons_succ]
  exact jd_idxloop hv hn hl hf n 0 (by omega) (fun c hc => by simp at hc)
theorem jd_idxL {G : ia_G} {h : ia_H} {d v n : Nat} {f : Nat → Value} {t : List Int32} (hd : 1 ≤ d) (hv : h.1 v = some (.inl (.byte, n, f))) (hn : n < 2 ^ 30) (hl : t.length = n) (hf : ∀ j c, t[j]? = some c → f j = .int c) : ia_Cn pg G kk_la_indexOf d 0 0 [.ref v, .int 120, .int 0, .int (nI n)] h (fun rv h' => (∃ r : Int32, rv = some (.int r) ∧ (0 ≤ r ↔ (120 : Int32) ∈ t)) ∧ h' = h) := by
  refine jd_met (ls := [.ref v, .int 120, .int 0, .int (nI n)]) rfl rfl rfl ?_
  refine ia_go 1 rfl ?_
  refine jd_cS [.int 120] [] 0 0 (d' := d - 1) rfl rfl rfl rfl rfl (by omega) (by omega) (by omega) (jd_canencI) ?_
  rintro rv h' ⟨rfl, rfl⟩
  refine ia_go 1 rfl ?_
  rw [if_pos (by decide)]
  refine ia_go 2 rfl ?_
  refine ia_mmax pg_ok.2 rfl (Nat.le_of_ble_eq_true rfl) (by omega) ?_
  refine ia_go 1 rfl ?_
  dsimp only [ia_s1, ia_s2, ia_cl, ia_D, List.getElem?_cons_zero, List.getElem?_cons_succ, List.set_cons_zero, List.set_cons_succ]
  refine ia_go 2 rfl ?_
  rw [if_neg (show ¬ (0 : Int32) < 0 by decide)]
  refine jd_alen rfl hv ?_
  refine ia_mmin pg_ok.2 rfl (Nat.le_of_ble_eq_true rfl) (by omega) ?_
  refine ia_go 1 rfl ?_
  dsimp only [ia_s1, ia_s2, ia_cl, ia_D, List.getElem?_cons_zero, List.getElem?_cons_succ, List.set_cons_zero, List.set_cons_succ]
  refine ia_go 3 rfl ?_
  rw [if_neg (show ¬ nI n < nI n from nI_nlt (Nat.le_refl _) (by omega))]
  by_cases hn0 : n = 0
  · rw [if_neg (show ¬ (0 : Int32) < nI n by rw [hn0]; decide)]
    refine ia_go 1 rfl ?_
    exact jd_rv1 rfl rfl rfl trivial ⟨⟨-1, rfl, ⟨fun z => absurd z (by decide), fun z => by rw [List.eq_nil_of_length_eq_zero (hl.trans hn0)] at z; cases z⟩⟩, rfl⟩
  · rw [if_pos (show (0 : Int32) < nI n from nI_lt (a := 0) (by omega) (by omega))]
    refine ia_go 4 rfl ?_
    refine jd_cS [.ref v, .int 120, .int 0, .int (nI n)] [] 0 0 (d' := d - 1) rfl rfl rfl rfl rfl (by omega) (by omega) (by omega) (jd_idxC hv hn hl hf) ?_
    rintro rv h' ⟨⟨r, rfl, hr⟩, rfl⟩
    exact jd_rv1 rfl rfl rfl trivial ⟨⟨r, rfl, hr⟩, rfl⟩
theorem jd_idxII {G : ia_G} {h : ia_H} {d a : Nat} {t : List Int32} (hd : 2 ≤ d) (hT : sx_t h a t) : ia_Cn pg G kk_st_indexOf_II d 0 0 [.ref a, .int 120, .int 0] h (fun rv h' => (∃ r : Int32, rv = some (.int r) ∧ (0 ≤ r ↔ (120 : Int32) ∈ t)) ∧ h' = h) := by
  obtain ⟨w, r, f, ha, hw, hf, hch, hul, p1, p2⟩ := hT
  refine jd_met (ls := [.ref a, .int 120, .int 0]) rfl rfl rfl ?_
  refine ia_go 1 rfl ?_
  refine jd_cV a [] [] 0 0 (d' := d - 1) rfl rfl rfl ha rfl rfl (by omega) (by omega) (by omega) (jd_slatin ha) ?_
  rintro rv h' ⟨rfl, rfl⟩
  refine ia_go 1 rfl ?_
  rw [if_neg (by decide)]
  refine ia_go 1 rfl ?_
  refine ia_getf rfl ha rfl ?_
  refine ia_go 3 rfl ?_
  refine jd_cV a [] [.int 0, .int 120, .ref w] 0 0 (d' := d - 1) rfl rfl rfl ha rfl rfl (by omega) (by omega) (by omega) (jd_slen (by omega) ha hw) ?_
  rintro rv h' ⟨rfl, rfl⟩
  refine jd_cS [.ref w, .int 120, .int 0, .int (nI t.length)] [] 0 0 (d' := d - 1) rfl rfl rfl rfl rfl (by omega) (by omega) (by omega) (jd_idxL (by omega) hw (by omega) rfl hf) ?_
  rintro rv h' ⟨⟨r, rfl, hr⟩, rfl⟩
  refine ia_go 1 rfl ?_
  exact jd_rv1 rfl rfl rfl trivial ⟨⟨r, rfl, hr⟩, rfl⟩
theorem jd_idx {G : ia_G} {h : ia_H} {d a : Nat} {t : List Int32} (hd : 3 ≤ d) (hT : sx_t h a t) : ia_Cn pg G kk_st_indexOf_I d 0 0 [.ref a, .int 120] h (fun rv h' => (∃ r : Int32, rv = some (.int r) ∧ (0 ≤ r ↔ (120 : Int32) ∈ t)) ∧ h' = h) := by
  obtain ⟨w, r, f, ha, -⟩ := id hT
  refine jd_met (ls := [.ref a, .int 120]) rfl rfl rfl ?_
  refine ia_go 3 rfl ?_
  refine jd_cV a [.int 120, .int 0] [] 0 0 (d' := d - 1) rfl rfl rfl ha rfl rfl (by omega) (by omega) (by omega) (jd_idxII (by omega) hT) ?_
  rintro rv h' ⟨⟨r, rfl, hr⟩, rfl⟩
  exact jd_rv1 rfl rfl rfl trivial ⟨⟨r, rfl, hr⟩, rfl⟩
