/-! THE LAW: from its entry to its loop. -/
theorem tt.low {h h' : ia_H} {u v a : Nat} {t : List Int32} (x : tt h u v a t) (h2 : h.2 = 64) (h2' : 64 ≤ h'.2) (hk : ∀ q, q < 64 → h'.1 q = h.1 q) : tt h' u v a t := by
  obtain ⟨w, r, f, h1, h3, h4, h5, h6, ⟨h7, h7'⟩, h8, h9⟩ := x
  exact ⟨w, r, f, (hk a (by omega)).trans h1, (hk w (by omega)).trans h3, h4, h5, h6, ⟨by omega, by omega⟩, h8, h9⟩
theorem lw_cx0 {h0 h1 h : ia_H} (k0 : kst h0) (h02 : h0.2 = 64) (h12 : h1.2 = 117) (hF : cx_0 h1 0 0 ∧ sx_b h1 65 66 16 [] ∧ (∃ f, h1.1 67 = some (.inl (.object "RefinementBench$Slot", 4, f)) ∧ ∀ j, j < 4 → f j = .ref (113 + j)) ∧ (∀ j, j < 4 → h1.1 (113 + j) = some (.inr (6, [.ref (if j = 3 then 2 else 4)]))) ∧ h1.1 68 = some (.inl (.object "RefinementBench$Node", 17, fun _ => .null)) ∧ cx_dr h1 71 16 ∧ cx_jg h1 ∧ cx_cd h1 ∧ cx_ar h1 (fun _ => 0) (fun _ => 0)) (kl : ∀ q, q < 64 → h1.1 q = h0.1 q) (h2 : h.2 = 142) (hk : ∀ q, q < 117 → h.1 q = h1.1 q) : CX a0S h := by
  obtain ⟨f0, fb, ⟨f, e67, g67⟩, fs, e68, fd, fj, fc, fa⟩ := hF
  have lo : ∀ {a t}, (∀ u v, 64 ≤ u → 64 ≤ v → tt h0 u v a t) → tt h 66 71 a t := fun x => (x 66 71 (by omega) (by omega)).low h02 (by omega) (fun q hq => (hk q (by omega)).trans (kl q hq))
  refine ⟨66, 16, 71, 16, fun _ => 0, fun _ => 0, ⟨(hk 64 (by omega)).trans f0, fb.keep (hk 65 (by omega)) (hk 66 (by omega)) (by omega), ⟨⟨f, (hk 67 (by omega)).trans e67, g67⟩, fun i hi => ⟨if i = 3 then 2 else 4, (hk _ (by omega)).trans (fs i hi), ?_⟩⟩, ⟨_, (hk 68 (by omega)).trans e68, fun n _ _ => rfl⟩, fd.keep (hk 69 (by omega)) (hk 70 (by omega)) (hk 71 (by omega)) (by omega), fj.keep (fun q _ _ => hk q (by omega)), fc.keep (fun q _ _ => hk q (by omega)), fa.keep (hk 111 (by omega)) (hk 112 (by omega)), fun q hq => lo (k0.1 q hq)⟩, ⟨Or.inl rfl, Or.inl rfl, by omega, by omega⟩, fun n _ _ z => Bool.noConfusion (show false = true from z), fun n m _ _ _ _ z => Bool.noConfusion (show false = true from z)⟩
  show tt h 66 71 (if i = 3 then 2 else 4) (if i = 3 then [48] else [84])
  by_cases e : i = 3
  · rw [if_pos e, if_pos e]; exact lo k0.2.1
  · rw [if_neg e, if_neg e]; exact lo k0.2.2
set_option maxRecDepth 16384 in
theorem lw_main {G : ia_G} {d n r : Nat} {sc : Nat → Int32} {h : ia_H} (hd : 39 ≤ d) (hn : n ≤ 2560) (hr : n < 5 * r + 5) (h2 : h.2 = 64) (e0 : ∃ f, h.1 0 = some (.inl (.int, n, f)) ∧ ∀ j, j < n → f j = .int (sc j)) (hk : kst h) : ia_Sx pg G kk_L_law d (78 + 29 * r) (13155 + 11070 * r) 0 [.ref 0, .retAddr 0, .retAddr 0, .retAddr 0] [] h (fun rv h' => rv = some (.int 1)) := by
  obtain ⟨hc, hn'⟩ := h
  obtain rfl : hn' = 64 := h2
  obtain ⟨f, e0, g0⟩ := e0
  refine ia_new rfl rfl rfl (bc' := 77 + 29 * r) (bs' := 13145 + 11070 * r) (by omega) (by show 13145 + 11070 * r + 10 ≤ _; omega) ?_
  refine ia_go 1 rfl ?_
  refine jd_cI 64 [] [.ref 64] 52 573 (d' := d - 1) rfl rfl rfl (fs := [.null, .null, .null, .null, .null, .null, .null, .null, .int 0, .int 0]) rfl rfl rfl (by omega) (by omega) (by omega) (cl_rinit (by omega) rfl rfl) ?_
  rintro rv h1 ⟨rfl, z1, F1, k1⟩
  obtain ⟨h1c, h1n⟩ := h1
  obtain rfl : h1n = 117 := z1
  refine ia_go 1 rfl ?_
  dsimp only [ia_s1, ia_s2, ia_cl, ia_D, List.getElem?_cons_zero, List.getElem?_cons_succ, List.set_cons_zero, List.set_cons_succ]
  refine ia_new rfl rfl rfl (bc' := 24 + 29 * r) (bs' := 12540 + 11070 * r) (by omega) (by show 12540 + 11070 * r + 32 ≤ _; omega) ?_
  refine ia_go 1 rfl ?_
  refine jd_cI 117 [] [.ref 117] 24 12540 (d' := d - 1) rfl rfl rfl (fs := [.null, .null, .int 0, .null, .null, .null, .null, .null, .null, .null, .null, .null, .null, .null, .int 0, .null, .int 0, .int 0, .null, .null, .null, .null, .int 0, .null, .null, .null, .null, .null, .int 0, .null, .int 0, .int 0]) rfl rfl rfl (by omega) (by omega) (by omega) (rx_init (by omega) rfl rfl) ?_
  rintro rv h3 ⟨rfl, R3, z3, k3⟩
  refine ia_go 1 rfl ?_
  dsimp only [ia_s1, ia_s2, ia_cl, ia_D, List.getElem?_cons_zero, List.getElem?_cons_succ, List.set_cons_zero, List.set_cons_succ]
  refine ia_go 2 rfl ?_
  dsimp only [ia_s1, ia_s2, ia_cl, ia_D, List.getElem?_cons_zero, List.getElem?_cons_succ, List.set_cons_zero, List.set_cons_succ]
  have kl : ∀ q, q < 64 → h1c q = hc q := fun q hq => (k1 q hq).trans (ia_up_ne (by show q ≠ 64; omega))
  have k4 : ∀ q, q < 117 → h3.1 q = h1c q := fun q hq => (k3 q hq).trans (ia_up_ne (by show q ≠ 117; omega))
  have C3 : CX a0S h3 := lw_cx0 (h0 := (hc, 64)) (h1 := (h1c, 117)) hk rfl rfl F1 kl z3 k4
  exact ia_Sx.room (lw_loop (sc := sc) (by omega) hn r 0 (by omega) (by omega) h3 a0S ⟨C3, R3, ai_0, ⟨f, (k4 0 (by omega)).trans ((kl 0 (by omega)).trans e0), g0⟩, by omega⟩) (Nat.le_refl _) (by omega) (by omega)
