/-! THE CLASS, 16: its constructors. -/
/-- cells that are made, from the number n on; what stood there stays -/
def mkd (h h' : ia_H) (n : Nat) (L : List (Nat × ia_E)) : Prop := h'.2 = n ∧ (∀ q, q ∈ L → h'.1 q.1 = some q.2) ∧ ∀ q, q < h.2 → (∀ z, z ∈ L → z.1 ≠ q) → h'.1 q = h.1 q
theorem cl_dinit {G : ia_G} {h : ia_H} {d : Nat} (hd : 3 ≤ d) (hx : h.1 69 = some (.inr (2, [.null, .int 0]))) (h2 : h.2 = 70) : ia_Cn pg G kk_D_init d 2 20 [.ref 69] h (fun rv h' => rv = none ∧ h'.2 = 72 ∧ h'.1 69 = some (.inr (2, [.ref 70, .int 0])) ∧ h'.1 70 = some (.inr (9, [.ref 71, .int 0, .int 0, .int 0])) ∧ h'.1 71 = some (.inl (.byte, 16, fun _ => .int 0)) ∧ ∀ q, q < 69 → h'.1 q = h.1 q) := by
  obtain ⟨hc, hn⟩ := h
  obtain rfl : hn = 70 := h2
  refine jd_met (ls := [.ref 69]) rfl rfl rfl ?_
  refine ia_go 1 rfl ?_
  refine ia_obj pg_ok.2 rfl (Nat.le_of_ble_eq_true rfl) (by omega) ?_
  refine ia_go 1 rfl ?_
  refine ia_new rfl rfl rfl (bc' := 1) (bs' := 16) (by omega) (by show 16 + 4 ≤ 20; omega) ?_
  refine ia_go 1 rfl ?_
  refine jd_cI 70 [] [.ref 70, .ref 69] 1 16 (d' := d - 1) rfl rfl rfl (fs := [.null, .int 0, .int 0, .int 0]) rfl rfl rfl (by omega) (by omega) (by omega) (jd_sbinit (by omega) rfl (by omega) (by show 70 < 71; omega)) ?_
  rintro rv h' ⟨rfl, hh⟩
  subst hh
  refine ia_putf rfl (((hx))) (by omega) rfl rfl rfl rfl ?_
  refine jd_rv0 rfl rfl rfl ⟨rfl, rfl, rfl, rfl, rfl, fun q hq => ?_⟩
  exact (ia_up_ne (by omega)).trans ((ia_up_ne (by omega)).trans ((ia_up_ne (by show q ≠ 71; omega)).trans (ia_up_ne (by omega))))
theorem cl_jinit {G : ia_G} {h : ia_H} {d : Nat} (hd : 1 ≤ d) (hx : h.1 72 = some (.inr (4, [.null, .null, .null, .int 0]))) (h2 : h.2 = 73) : ia_Cn pg G kk_J_init d 3 360 [.ref 72] h (fun rv h' => rv = none ∧ h'.2 = 76 ∧ h'.1 72 = some (.inr (4, [.ref 73, .ref 74, .ref 75, .int 0])) ∧ h'.1 73 = some (.inl (.long, 120, fun _ => .long 0)) ∧ h'.1 74 = some (.inl (.long, 120, fun _ => .long 0)) ∧ h'.1 75 = some (.inl (.long, 120, fun _ => .long 0)) ∧ ∀ q, q < 72 → h'.1 q = h.1 q) := by
  obtain ⟨hc, hn⟩ := h
  obtain rfl : hn = 73 := h2
  refine jd_met (ls := [.ref 72]) rfl rfl rfl ?_
  refine ia_go 1 rfl ?_
  refine ia_obj pg_ok.2 rfl (Nat.le_of_ble_eq_true rfl) (by omega) ?_
  refine ia_go 2 rfl ?_
  refine ia_newa rfl rfl rfl (N := 120) (bc' := 2) (bs' := 240) (by decide) (by decide) (by decide) (by omega) (by omega) ?_
  refine ia_putf rfl (hx) (by omega) rfl rfl rfl rfl ?_
  refine ia_go 2 rfl ?_
  refine ia_newa rfl rfl rfl (N := 120) (bc' := 1) (bs' := 120) (by decide) (by decide) (by decide) (by omega) (by omega) ?_
  refine ia_putf rfl (rfl) (by omega) rfl rfl rfl rfl ?_
  refine ia_go 2 rfl ?_
  refine ia_newa rfl rfl rfl (N := 120) (bc' := 0) (bs' := 0) (by decide) (by decide) (by decide) (by omega) (by omega) ?_
  refine ia_putf rfl (rfl) (by omega) rfl rfl rfl rfl ?_
  refine jd_rv0 rfl rfl rfl ⟨rfl, rfl, rfl, ?_, ?_, ?_, fun q hq => ?_⟩
  · exact ((((rfl))))
  · exact ((rfl))
  · exact rfl
  · exact (ia_up_ne (by omega)).trans ((ia_up_ne (by show q ≠ 75; omega)).trans ((ia_up_ne (by omega)).trans ((ia_up_ne (by show q ≠ 74; omega)).trans ((ia_up_ne (by omega)).trans (ia_up_ne (by show q ≠ 73; omega))))))
theorem cl_iinit {G : ia_G} {h : ia_H} {d x : Nat} (hd : 1 ≤ d) : ia_Cn pg G kk_I_init d 0 0 [.ref x] h (fun rv h' => rv = none ∧ h' = h) := by
  refine jd_met (ls := [.ref x]) rfl rfl rfl ?_
  refine ia_go 1 rfl ?_
  refine ia_obj pg_ok.2 rfl (Nat.le_of_ble_eq_true rfl) (by omega) ?_
  exact jd_rv0 rfl rfl rfl ⟨rfl, rfl⟩
theorem cl_ciloop {G : ia_G} {h0 : ia_H} {d : Nat} (hd : 2 ≤ d) : ∀ (r i : Nat), i + r = 33 → ∀ (h : ia_H) (f : Nat → Value), h.2 = 78 + i → h.1 76 = some (.inr (1, [.ref 77, .int 0])) → h.1 77 = some (.inl (.object "RefinementBench$Instruction", 33, f)) → (∀ j, j < i → f j = .ref (78 + j) ∧ h.1 (78 + j) = some (.inr (3, [.int 0, .int 0, .null]))) → (∀ q, q < 76 → h.1 q = h0.1 q) → ia_Sx pg G kk_C_init d r (3 * r) 15 [.ref 76, .int (nI i)] [] h (fun rv h' => rv = none ∧ h'.2 = 111 ∧ cx_cd h' ∧ ∀ q, q < 76 → h'.1 q = h0.1 q) := by
  intro r
  induction r with
  | zero =>
    intro i hi h f h2 e76 e77 hf hk
    obtain rfl : i = 33 := by omega
    refine ia_go 3 rfl ?_
    rw [if_pos (by exact (by decide))]
    exact jd_rv0 rfl rfl rfl ⟨rfl, h2, ⟨⟨0, e76⟩, ⟨f, e77, fun j hj => (hf j hj).1⟩, fun j hj => ⟨0, 0, .null, (hf j hj).2⟩⟩, hk⟩
  | succ r ih =>
    intro i hi h f h2 e76 e77 hf hk
    refine ia_go 3 rfl ?_
    rw [if_neg (by exact (nI_ge (b := 33) (by omega) (by omega)))]
    refine ia_go 1 rfl ?_
    refine ia_getf rfl e76 rfl ?_
    refine ia_go 1 rfl ?_
    refine ia_new rfl rfl rfl (bc' := r) (bs' := 3 * r) (by omega) (by show 3 * r + 3 ≤ _; omega) ?_
    refine ia_go 1 rfl ?_
    refine jd_cI h.2 [] [.ref h.2, .int (nI i), .ref 77] 0 0 (d' := d - 1) rfl rfl rfl (fs := [.int 0, .int 0, .null]) ia_up_same rfl rfl (by omega) (by omega) (by omega) (cl_iinit (by omega)) ?_
    rintro rv h' ⟨rfl, hh⟩
    subst hh
    refine ia_aast rfl ((ia_up_ne (by omega)).trans e77) (by omega) ia_up_same rfl rfl (vp_in_nI (by omega) (by omega)) ?_
    rw [nI_clamp (by omega)]
    refine ia_go 1 rfl ?_
    dsimp only [ia_s1, ia_s2, ia_cl, ia_D, List.getElem?_cons_zero, List.getElem?_cons_succ, List.set_cons_zero, List.set_cons_succ]
    refine ia_go 1 rfl ?_
    rw [show nI i + Int32.ofInt 1 = nI (i + 1) from nI_1 i]
    refine ia_Sx.room (ih (i + 1) (by omega) _ _ ?_ ((ia_up_ne (by omega)).trans e76) rfl (fun j hj => ?_) (fun q hq => ?_)) (Nat.le_refl _) (by omega) (by omega)
    · show h.2 + 1 = 78 + (i + 1); omega
    · show (if j = i then Value.ref h.2 else f j) = .ref (78 + j) ∧ _
      by_cases e : j = i
      · rw [if_pos e, e, h2]
        exact ⟨rfl, (ia_up_ne (by omega)).trans (by rw [← h2]; exact ia_up_same)⟩
      · rw [if_neg e]
        exact ⟨(hf j (by omega)).1, (ia_up_ne (by omega)).trans ((ia_up_ne (by omega)).trans (hf j (by omega)).2)⟩
    · exact (ia_up_ne (by omega)).trans ((ia_up_ne (by omega)).trans (hk q hq))
theorem cl_cinit {G : ia_G} {h : ia_H} {d : Nat} (hd : 2 ≤ d) (hx : h.1 76 = some (.inr (1, [.null, .int 0]))) (h2 : h.2 = 77) : ia_Cn pg G kk_C_init d 34 132 [.ref 76] h (fun rv h' => rv = none ∧ h'.2 = 111 ∧ cx_cd h' ∧ ∀ q, q < 76 → h'.1 q = h.1 q) := by
  obtain ⟨hc, hn⟩ := h
  obtain rfl : hn = 77 := h2
  refine jd_met (ls := [.ref 76, .retAddr 0]) rfl rfl rfl ?_
  refine ia_go 1 rfl ?_
  refine ia_obj pg_ok.2 rfl (Nat.le_of_ble_eq_true rfl) (by omega) ?_
  refine ia_go 2 rfl ?_
  refine ia_newq rfl rfl (N := 33) (bc' := 33) (bs' := 99) (C := "RefinementBench$Instruction") (by decide) (by decide) (by decide) (by omega) (by omega) ?_
  refine ia_putf rfl (hx) (by omega) rfl rfl rfl rfl ?_
  refine ia_go 2 rfl ?_
  dsimp only [ia_s1, ia_s2, ia_cl, ia_D, List.getElem?_cons_zero, List.getElem?_cons_succ, List.set_cons_zero, List.set_cons_succ]
  refine ia_Sx.room (cl_ciloop (h0 := (hc, 77)) hd 33 0 (by omega) _ (fun _ => .null) rfl rfl rfl (fun j hj => absurd hj (by omega)) (fun q hq => (ia_up_ne (by omega)).trans (ia_up_ne (by show q ≠ 77; omega)))) (Nat.le_refl _) (by omega) (by omega)
theorem cl_sinit {G : ia_G} {h : ia_H} {d x a : Nat} (hd : 1 ≤ d) (hx : h.1 x = some (.inr (6, [.null]))) (h64 : 64 ≤ x) : ia_Cn pg G kk_S_init d 0 0 [.ref x, .ref a] h (fun rv h' => rv = none ∧ o1 h h' x (.inr (6, [.ref a]))) := by
  refine jd_met (ls := [.ref x, .ref a]) rfl rfl rfl ?_
  refine ia_go 1 rfl ?_
  refine ia_obj pg_ok.2 rfl (Nat.le_of_ble_eq_true rfl) (by omega) ?_
  refine ia_go 2 rfl ?_
  refine ia_putf rfl hx h64 rfl rfl rfl rfl ?_
  exact jd_rv0 rfl rfl rfl ⟨rfl, o1.up⟩
theorem cl_sloop {G : ia_G} {h1 : ia_H} {d : Nat} {fs : List Value} (hd : 2 ≤ d) (e64 : h1.1 64 = some (.inr (0, .ref 65 :: .ref 67 :: fs))) : ∀ (r i : Nat), i + r = 4 → ∀ (h : ia_H) (f : Nat → Value), h.2 = 113 + i → h.1 67 = some (.inl (.object "RefinementBench$Slot", 4, f)) → (∀ j, j < i → f j = .ref (113 + j) ∧ h.1 (113 + j) = some (.inr (6, [.ref (if j = 3 then 2 else 4)]))) → (∀ q, q < 113 → q ≠ 67 → h.1 q = h1.1 q) → ia_Sx pg G kk_R_init d r r 81 [.ref 64, .int (nI i)] [] h (fun rv h' => rv = none ∧ h'.2 = 117 ∧ (∃ f, h'.1 67 = some (.inl (.object "RefinementBench$Slot", 4, f)) ∧ ∀ j, j < 4 → f j = .ref (113 + j)) ∧ (∀ j, j < 4 → h'.1 (113 + j) = some (.inr (6, [.ref (if j = 3 then 2 else 4)]))) ∧ ∀ q, q < 113 → q ≠ 67 → h'.1 q = h1.1 q) := by
  intro r
  induction r with
  | zero =>
    intro i hi h f h2 e67 hf hk
    obtain rfl : i = 4 := by omega
    refine ia_go 2 rfl ?_
    refine ia_getf rfl ((hk 64 (by omega) (by omega)).trans e64) rfl ?_
    refine jd_alen rfl e67 ?_
    refine ia_go 1 rfl ?_
    rw [if_pos (by exact (by decide))]
    exact jd_rv0 rfl rfl rfl ⟨rfl, h2, ⟨f, e67, fun j hj => (hf j hj).1⟩, fun j hj => (hf j hj).2, hk⟩
  | succ r ih =>
    intro i hi h f h2 e67 hf hk
    have tail : ∀ b : Nat, b = (if i = 3 then 2 else 4) → ia_Sx pg G kk_R_init d r r 111 [.ref 64, .int (nI i)] [.ref b, .ref h.2, .ref h.2, .int (nI i), .ref 67] (ia_up h.1 h.2 (.inr (6, [.null])), h.2 + 1) (fun rv h' => rv = none ∧ h'.2 = 117 ∧ (∃ f, h'.1 67 = some (.inl (.object "RefinementBench$Slot", 4, f)) ∧ ∀ j, j < 4 → f j = .ref (113 + j)) ∧ (∀ j, j < 4 → h'.1 (113 + j) = some (.inr (6, [.ref (if j = 3 then 2 else 4)]))) ∧ ∀ q, q < 113 → q ≠ 67 → h'.1 q = h1.1 q) := by
      intro b hb
      refine jd_cI h.2 [.ref b] [.ref h.2, .int (nI i), .ref 67] 0 0 (d' := d - 1) rfl rfl rfl (fs := [.null]) ia_up_same rfl rfl (by omega) (by omega) (by omega) (cl_sinit (by omega) ia_up_same (by omega)) ?_
      rintro rv h' ⟨rfl, o2, o3, o4⟩
      refine ia_aast rfl ((o4 67 (by omega)).trans ((ia_up_ne (by omega)).trans e67)) (by omega) o3 rfl rfl (vp_in_nI (by omega) (by omega)) ?_
      rw [nI_clamp (by omega)]
      refine ia_go 1 rfl ?_
      dsimp only [ia_s1, ia_s2, ia_cl, ia_D, List.getElem?_cons_zero, List.getElem?_cons_succ, List.set_cons_zero, List.set_cons_succ]
      refine ia_go 1 rfl ?_
      rw [show nI i + Int32.ofInt 1 = nI (i + 1) from nI_1 i]
      refine ia_Sx.room (ih (i + 1) (by omega) _ _ ?_ rfl (fun j hj => ?_) (fun q hq hq2 => ?_)) (Nat.le_refl _) (by omega) (by omega)
      · show h'.2 = 113 + (i + 1); rw [o2]; show h.2 + 1 = _; omega
      · show (if j = i then Value.ref h.2 else f j) = .ref (113 + j) ∧ _
        by_cases e : j = i
        · rw [if_pos e, e, h2]
          exact ⟨rfl, (ia_up_ne (by omega)).trans (by rw [← h2, o3, hb])⟩
        · rw [if_neg e]
          exact ⟨(hf j (by omega)).1, (ia_up_ne (by omega)).trans ((o4 _ (by omega)).trans ((ia_up_ne (by omega)).trans (hf j (by omega)).2))⟩
      · exact (ia_up_ne (by omega)).trans ((o4 _ (by omega)).trans ((ia_up_ne (by omega)).trans (hk q hq hq2)))
    have start : (∀ b : Nat, b = (if i = 3 then 2 else 4) → True) := fun _ _ => trivial
    by_cases e3 : i = 3
    · subst e3
      refine ia_go 2 rfl ?_
      refine ia_getf rfl ((hk 64 (by omega) (by omega)).trans e64) rfl ?_
      refine jd_alen rfl e67 ?_
      refine ia_go 1 rfl ?_
      rw [if_neg (by exact (by decide))]
      refine ia_go 1 rfl ?_
      refine ia_getf rfl ((hk 64 (by omega) (by omega)).trans e64) rfl ?_
      refine ia_go 1 rfl ?_
      refine ia_new rfl rfl rfl (bc' := r) (bs' := r) (by omega) (by show r + 1 ≤ _; omega) ?_
      refine ia_go 4 rfl ?_
      rw [if_neg (by exact (fun z => z rfl))]
      refine ia_ldcS rfl ?_
      refine ia_go 1 rfl ?_
      exact tail 2 rfl
    ·
      refine ia_go 2 rfl ?_
      refine ia_getf rfl ((hk 64 (by omega) (by omega)).trans e64) rfl ?_
      refine jd_alen rfl e67 ?_
      refine ia_go 1 rfl ?_
      rw [if_neg (by exact (nI_ge (b := 4) (by omega) (by omega)))]
      refine ia_go 1 rfl ?_
      refine ia_getf rfl ((hk 64 (by omega) (by omega)).trans e64) rfl ?_
      refine ia_go 1 rfl ?_
      refine ia_new rfl rfl rfl (bc' := r) (bs' := r) (by omega) (by show r + 1 ≤ _; omega) ?_
      refine ia_go 4 rfl ?_
      rw [if_pos (by exact (fun z => e3 ((nI_eq (b := 3) (by omega) (by omega)).mp z)))]
      refine ia_ldcS rfl ?_
      exact tail 4 (by rw [if_neg e3])
/-- the Strings that stand there before -/
def kst (h : ia_H) : Prop := (∀ q, q ∈ cst → ∀ u v, 64 ≤ u → 64 ≤ v → tt h u v q.1 q.2) ∧ (∀ u v, 64 ≤ u → 64 ≤ v → tt h u v 2 [48]) ∧ ∀ u v, 64 ≤ u → 64 ≤ v → tt h u v 4 [84]
theorem cl_rinit {G : ia_G} {h : ia_H} {d : Nat} (hd : 4 ≤ d) (hx : h.1 64 = some (.inr (0, [.null, .null, .null, .null, .null, .null, .null, .null, .int 0, .int 0]))) (h2 : h.2 = 65) : ia_Cn pg G kk_R_init d 52 573 [.ref 64] h (fun rv h' => rv = none ∧ h'.2 = 117 ∧ (cx_0 h' 0 0 ∧ sx_b h' 65 66 16 [] ∧ (∃ f, h'.1 67 = some (.inl (.object "RefinementBench$Slot", 4, f)) ∧ ∀ j, j < 4 → f j = .ref (113 + j)) ∧ (∀ j, j < 4 → h'.1 (113 + j) = some (.inr (6, [.ref (if j = 3 then 2 else 4)]))) ∧ h'.1 68 = some (.inl (.object "RefinementBench$Node", 17, fun _ => .null)) ∧ cx_dr h' 71 16 ∧ cx_jg h' ∧ cx_cd h' ∧ cx_ar h' (fun _ => 0) (fun _ => 0)) ∧ ∀ q, q < 64 → h'.1 q = h.1 q) := by
  obtain ⟨hc, hn⟩ := h
  obtain rfl : hn = 65 := h2
  refine jd_met (ls := [.ref 64, .retAddr 0]) rfl rfl rfl ?_
  refine ia_go 1 rfl ?_
  refine ia_obj pg_ok.2 rfl (Nat.le_of_ble_eq_true rfl) (by omega) ?_
  refine ia_go 1 rfl ?_
  refine ia_new rfl rfl rfl (bc' := 51) (bs' := 569) (by omega) (by show 569 + 4 ≤ 573; omega) ?_
  refine ia_go 1 rfl ?_
  refine jd_cI 65 [] [.ref 65, .ref 64] 1 16 (d' := d - 1) rfl rfl rfl (fs := [.null, .int 0, .int 0, .int 0]) rfl rfl rfl (by omega) (by omega) (by omega) (jd_sbinit (by omega) rfl (by omega) (by show 65 < 66; omega)) ?_
  rintro rv h1 ⟨rfl, hh⟩
  subst hh
  refine ia_putf rfl (((hx))) (by omega) rfl rfl rfl rfl ?_
  refine ia_gen (Q := fun h => h.2 = 67 ∧ h.1 64 = some (.inr (0, [.ref 65, .null, .null, .null, .null, .null, .null, .null, .int 0, .int 0])) ∧ h.1 65 = some (.inr (9, [.ref 66, .int 0, .int 0, .int 0])) ∧ h.1 66 = some (.inl (.byte, 16, fun _ => .int 0)) ∧ ∀ q, q < 64 → h.1 q = hc q) ⟨rfl, rfl, rfl, rfl, fun q hq => (ia_up_ne (by omega)).trans ((ia_up_ne (by omega)).trans ((ia_up_ne (by show q ≠ 66; omega)).trans (ia_up_ne (by omega))))⟩ (fun h1 hh => ?_)
  obtain ⟨h1c, h1n⟩ := h1
  obtain ⟨z1, a64, a65, a66, ak⟩ := hh
  obtain rfl : h1n = 67 := z1
  refine ia_go 2 rfl ?_
  refine ia_newq rfl rfl (N := 4) (bc' := 49) (bs' := 549) (C := "RefinementBench$Slot") (by decide) (by decide) (by decide) (by omega) (by omega) ?_
  refine ia_putf rfl (a64) (by omega) rfl rfl rfl rfl ?_
  refine ia_go 2 rfl ?_
  refine ia_newq rfl rfl (N := 17) (bc' := 48) (bs' := 532) (C := "RefinementBench$Node") (by decide) (by decide) (by decide) (by omega) (by omega) ?_
  refine ia_putf rfl (rfl) (by omega) rfl rfl rfl rfl ?_
  refine ia_go 1 rfl ?_
  refine ia_new rfl rfl rfl (bc' := 47) (bs' := 530) (by omega) (by show 530 + 2 ≤ _; omega) ?_
  refine ia_go 1 rfl ?_
  refine jd_cI 69 [] [.ref 69, .ref 64] 2 20 (d' := d - 1) rfl rfl rfl (fs := [.null, .int 0]) rfl rfl rfl (by omega) (by omega) (by omega) (cl_dinit (by omega) rfl rfl) ?_
  rintro rv h2 ⟨rfl, z2, b69, b70, b71, bk⟩
  refine ia_putf rfl ((bk 64 (by omega)).trans (rfl)) (by omega) rfl rfl rfl rfl ?_
  refine ia_gen (Q := fun h => h.2 = 72 ∧ h.1 64 = some (.inr (0, [.ref 65, .ref 67, .ref 68, .ref 69, .null, .null, .null, .null, .int 0, .int 0])) ∧ h.1 65 = some (.inr (9, [.ref 66, .int 0, .int 0, .int 0])) ∧ h.1 66 = some (.inl (.byte, 16, fun _ => .int 0)) ∧ h.1 67 = some (.inl (.object "RefinementBench$Slot", 4, fun _ => .null)) ∧ h.1 68 = some (.inl (.object "RefinementBench$Node", 17, fun _ => .null)) ∧ h.1 69 = some (.inr (2, [.ref 70, .int 0])) ∧ h.1 70 = some (.inr (9, [.ref 71, .int 0, .int 0, .int 0])) ∧ h.1 71 = some (.inl (.byte, 16, fun _ => .int 0)) ∧ ∀ q, q < 64 → h.1 q = hc q) ?g2 (fun h3 hh => ?_)
  rotate_left
  obtain ⟨h3c, h3n⟩ := h3
  obtain ⟨z3, c64, c65, c66, c67, c68, c69, c70, c71, ck⟩ := hh
  obtain rfl : h3n = 72 := z3
  refine ia_go 1 rfl ?_
  refine ia_new rfl rfl rfl (bc' := 44) (bs' := 506) (by omega) (by show 506 + 4 ≤ _; omega) ?_
  refine ia_go 1 rfl ?_
  refine jd_cI 72 [] [.ref 72, .ref 64] 3 360 (d' := d - 1) rfl rfl rfl (fs := [.null, .null, .null, .int 0]) rfl rfl rfl (by omega) (by omega) (by omega) (cl_jinit (by omega) rfl rfl) ?_
  rintro rv h4 ⟨rfl, z4, d72, d73, d74, d75, dk⟩
  refine ia_putf rfl ((dk 64 (by omega)).trans (c64)) (by omega) rfl rfl rfl rfl ?_
  obtain ⟨h4c, h4n⟩ := h4
  obtain rfl : h4n = 76 := z4
  refine ia_go 1 rfl ?_
  refine ia_new rfl rfl rfl (bc' := 40) (bs' := 144) (by omega) (by show 144 + 2 ≤ _; omega) ?_
  refine ia_go 1 rfl ?_
  refine jd_cI 76 [] [.ref 76, .ref 64] 34 132 (d' := d - 1) rfl rfl rfl (fs := [.null, .int 0]) rfl rfl rfl (by omega) (by omega) (by omega) (cl_cinit (by omega) rfl rfl) ?_
  rintro rv h5 ⟨rfl, z5, ecd, ek⟩
  refine ia_putf rfl ((ek 64 (by omega)).trans (rfl)) (by omega) rfl rfl rfl rfl ?_
  refine ia_gen (Q := fun h => h.2 = 111 ∧ h.1 64 = some (.inr (0, [.ref 65, .ref 67, .ref 68, .ref 69, .ref 72, .ref 76, .null, .null, .int 0, .int 0])) ∧ (∀ q, 65 ≤ q → q < 72 → h.1 q = h3c q) ∧ (h.1 72 = some (.inr (4, [.ref 73, .ref 74, .ref 75, .int 0])) ∧ h.1 73 = some (.inl (.long, 120, fun _ => .long 0)) ∧ h.1 74 = some (.inl (.long, 120, fun _ => .long 0)) ∧ h.1 75 = some (.inl (.long, 120, fun _ => .long 0))) ∧ cx_cd h ∧ ∀ q, q < 64 → h.1 q = hc q) ?g3 (fun h6 hh => ?_)
  rotate_left
  obtain ⟨h6c, h6n⟩ := h6
  obtain ⟨z6, f64, fk, fj, fcd, fo⟩ := hh
  obtain rfl : h6n = 111 := z6
  refine ia_go 2 rfl ?_
  refine ia_newa rfl rfl rfl (N := 5) (bc' := 5) (bs' := 7) (by decide) (by decide) (by decide) (by omega) (by omega) ?_
  refine ia_putf rfl (f64) (by omega) rfl rfl rfl rfl ?_
  refine ia_go 2 rfl ?_
  refine ia_newa rfl rfl rfl (N := 3) (bc' := 4) (bs' := 4) (by decide) (by decide) (by decide) (by omega) (by omega) ?_
  refine ia_putf rfl (rfl) (by omega) rfl rfl rfl rfl ?_
  refine ia_gen (Q := fun h => h.2 = 113 ∧ h.1 64 = some (.inr (0, [.ref 65, .ref 67, .ref 68, .ref 69, .ref 72, .ref 76, .ref 111, .ref 112, .int 0, .int 0])) ∧ h.1 111 = some (.inl (.int, 5, fun _ => .int 0)) ∧ h.1 112 = some (.inl (.int, 3, fun _ => .int 0)) ∧ ∀ q, q < 111 → q ≠ 64 → h.1 q = h6c q) ?g4 (fun h7 hh => ?_)
  rotate_left
  obtain ⟨z7, g64, g111, g112, gk⟩ := hh
  refine ia_go 2 rfl ?_
  dsimp only [ia_s1, ia_s2, ia_cl, ia_D, List.getElem?_cons_zero, List.getElem?_cons_succ, List.set_cons_zero, List.set_cons_succ]
  refine ia_Sx.mono (ia_Sx.room (cl_sloop (h1 := h7) (by omega) g64 4 0 (by omega) h7 _ z7 ((gk 67 (by omega) (by omega)).trans ((fk 67 (by omega) (by omega)).trans c67)) (fun j hj => absurd hj (by omega)) (fun _ _ _ => rfl)) (Nat.le_refl _) (by omega) (by omega)) (fun rv h' hp => ?_)
  case g2 =>
    refine ⟨z2, rfl, ?_, ?_, ?_, ?_, b69, b70, b71, fun q hq => ?_⟩
    · exact ((bk 65 (by omega)).trans (((((a65))))))
    · exact ((bk 66 (by omega)).trans (((((a66))))))
    · exact ((bk 67 (by omega)).trans ((((rfl)))))
    · exact ((bk 68 (by omega)).trans ((rfl)))
    · exact (ia_up_ne (by omega)).trans ((bk q (by omega)).trans ((ia_up_ne (by show q ≠ 69; omega)).trans ((ia_up_ne (by omega)).trans ((ia_up_ne (by show q ≠ 68; omega)).trans ((ia_up_ne (by omega)).trans ((ia_up_ne (by show q ≠ 67; omega)).trans (ak q hq)))))))
  case g3 =>
    refine ⟨z5, rfl, fun q q1 q2 => ?_, ⟨?_, ?_, ?_, ?_⟩, ?_, fun q hq => ?_⟩
    · exact (ia_up_ne (by omega)).trans ((ek q (by omega)).trans ((ia_up_ne (by show q ≠ 76; omega)).trans ((ia_up_ne (by omega)).trans ((dk q (by omega)).trans (ia_up_ne (by show q ≠ 72; omega))))))
    · exact ((ek 72 (by omega)).trans ((d72)))
    · exact ((ek 73 (by omega)).trans ((d73)))
    · exact ((ek 74 (by omega)).trans ((d74)))
    · exact ((ek 75 (by omega)).trans ((d75)))
    · exact ecd.keep (fun q q1 q2 => ia_up_ne (by omega))
    · exact (ia_up_ne (by omega)).trans ((ek q (by omega)).trans ((ia_up_ne (by show q ≠ 76; omega)).trans ((ia_up_ne (by omega)).trans ((dk q (by omega)).trans ((ia_up_ne (by show q ≠ 72; omega)).trans (ck q hq))))))
  case g4 =>
    exact ⟨rfl, rfl, rfl, rfl, fun q q1 q2 => (ia_up_ne q2).trans ((ia_up_ne (by show q ≠ 112; omega)).trans ((ia_up_ne q2).trans (ia_up_ne (by show q ≠ 111; omega))))⟩
  obtain ⟨rfl, p2, p67, p113, pk⟩ := hp
  have low : ∀ q, 65 ≤ q → q < 72 → q ≠ 67 → h'.1 q = h3c q := fun q q1 q2 q3 => (pk q (by omega) q3).trans ((gk q (by omega) (by omega)).trans (fk q q1 q2))
  refine ⟨rfl, p2, ⟨(pk 64 (by omega) (by omega)).trans g64, ⟨0, fun _ => .int 0, (low 65 (by omega) (by omega) (by omega)).trans c65, (low 66 (by omega) (by omega) (by omega)).trans c66, fun j c hc => by simp at hc, fun j _ => ⟨0, rfl, rfl⟩, Nat.zero_le _, by omega, by omega, by omega, by omega, by omega, by omega, fun c hc => by cases hc⟩, p67, p113, (low 68 (by omega) (by omega) (by omega)).trans c68, ⟨⟨0, Or.inl rfl, (low 69 (by omega) (by omega) (by omega)).trans c69⟩, ⟨0, fun _ => .int 0, (low 70 (by omega) (by omega) (by omega)).trans c70, (low 71 (by omega) (by omega) (by omega)).trans c71, fun j c hc => by simp at hc, fun j _ => ⟨0, rfl, rfl⟩, Nat.zero_le _, by omega, by omega, by omega, by omega, by omega, by omega, fun c hc => by cases hc⟩⟩, ⟨fun _ => 0, fun _ => 0, fun _ => 0, 0, (pk 72 (by omega) (by omega)).trans ((gk 72 (by omega) (by omega)).trans fj.1), (pk 73 (by omega) (by omega)).trans ((gk 73 (by omega) (by omega)).trans fj.2.1), (pk 74 (by omega) (by omega)).trans ((gk 74 (by omega) (by omega)).trans fj.2.2.1), (pk 75 (by omega) (by omega)).trans ((gk 75 (by omega) (by omega)).trans fj.2.2.2), Nat.zero_le _⟩, fcd.keep (fun q q1 q2 => (pk q (by omega) (by omega)).trans (gk q (by omega) (by omega))), ⟨⟨_, (pk 111 (by omega) (by omega)).trans g111, fun _ _ => rfl⟩, _, (pk 112 (by omega) (by omega)).trans g112, fun _ _ => rfl⟩⟩, fun q hq => (pk q (by omega) (by omega)).trans ((gk q (by omega) (by omega)).trans (fo q hq))⟩
