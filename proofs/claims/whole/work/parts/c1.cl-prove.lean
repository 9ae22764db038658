/-! THE CLASS, 11: isRefuted, prove. -/
theorem lg_0 {w : Int64} : lg_cmp w 0 = 0 ↔ w = 0 := by
  unfold lg_cmp
  constructor
  · intro h
    split at h
    · exact absurd h (by decide)
    · split at h
      · assumption
      · exact absurd h (by decide)
  · intro h
    rw [h]; decide
theorem vl_bit {E : Nat → Nat} {t : List Int32} (hE : d7 E) (hF : tx_F t) : vl E t = if bz (jg_v (nI (E 0)) (nI (E 1)) (nI (E 2)) t).1 (8 * E 3 + E 4) = true then 1 else 0 := by
  have h := bt_F (a := ⟨E 0, by have := hE 0 (by omega); omega⟩) (b := ⟨E 1, by have := hE 1 (by omega); omega⟩) (c := ⟨E 2, by have := hE 2 (by omega); omega⟩) (x := ⟨E 3, by have := hE 3 (by omega); omega⟩) (z := ⟨E 4, by have := hE 4 (by omega); omega⟩) hF
  exact h
def rfR (h0 h' : ia_H) (D : Nat → Nat) : Prop := (∃ F1 F2 F3 n, jg h' F1 F2 F3 n) ∧ (∃ g, h'.1 111 = some (.inl (.int, 5, g)) ∧ ∀ j, j < 5 → g j = .int (nI (D j))) ∧ sx_fr h0 h' (fun q => jg_S q ∨ q = 111) ∧ h'.2 = h0.2
set_option maxHeartbeats 2000000 in
theorem cl_rtloop {G : ia_G} {h0 : ia_H} {d a rr : Nat} {c : Int32} {t : List Int32} {f : Nat → Value} (hd : 6 ≤ d) (y0 : cx_0 h0 c rr) (hF : tx_F t) (hl : t.length ≤ 120) (hT0 : sx_t h0 a t) (e111 : h0.1 111 = some (.inl (.int, 5, f))) (h2 : 142 ≤ h0.2) (hj0 : ∃ F1 F2 F3 n, jg h0 F1 F2 F3 n) : ∀ (r k : Nat), k + r = 512 → (∀ E, d7 E → num E < 64 * k → vl E t ≠ 0) → ∀ (h : ia_H) (F1 F2 F3 : Nat → Int64) (n : Nat) (z3 z4 z5 z6 z7 z8 : Value), jg_X h0 h F1 F2 F3 n → ia_Sx pg G kk_R_isRefuted d 0 0 2 [.ref 64, .ref a, .int (nI k), z3, z4, z5, z6, z7, z8] [] h (fun rv h' => (rv = some (.int 1) ∧ ∃ D, rfd t D ∧ rfR h0 h' D) ∨ (rv = some (.int 0) ∧ (∀ E, d7 E → vl E t ≠ 0) ∧ ∃ F1 F2 F3 n, jg_X h0 h' F1 F2 F3 n)) := by
  obtain ⟨G1, G2, G3, gn, hj0⟩ := hj0
  intro r
  induction r with
  | zero =>
    intro k hk hv h F1 F2 F3 n z3 z4 z5 z6 z7 z8 hX
    obtain rfl : k = 512 := by omega
    refine ia_go 2 rfl ?_
    refine ia_go 3 rfl ?_
    rw [if_pos (by exact (by decide))]
    refine ia_go 1 rfl ?_
    exact jd_rv1 rfl rfl rfl rfl (Or.inr ⟨rfl, fun E hE => hv E hE (by have a0 := hE 0 (by omega); have a1 := hE 1 (by omega); have a2 := hE 2 (by omega); have a3 := hE 3 (by omega); have a4 := hE 4 (by omega); unfold num; omega), F1, F2, F3, n, hX⟩)
  | succ r ih =>
    intro k hk hv h F1 F2 F3 n z3 z4 z5 z6 z7 z8 hX
    have hk5 : k < 512 := by omega
    obtain ⟨b6, b3, b0⟩ := ab_6 ⟨k, hk5⟩
    have b6 : nI k >>> ((6 : Int32) &&& 31) = nI (k / 64) := b6
    have b3 : nI k >>> ((3 : Int32) &&& 31) &&& 7 = nI (k / 8 % 8) := b3
    have b0 : nI k &&& 7 = nI (k % 8) := b0
    have hT : sx_t h a t := hT0.keep hX.2.1 (jg_off hj0)
    have y0' : h.1 64 = _ := (hX.2.1.2 64 (by omega) (fun z => by have : 72 ≤ 64 := z.1; omega)).trans y0
    obtain ⟨m72, -⟩ := id hX.1
    have d5 : ∀ p, p < 64 → d7 (fun j => if j = 0 then k / 64 else if j = 1 then k / 8 % 8 else if j = 2 then k % 8 else if j = 3 then p / 8 else p % 8) := by
      intro p hp j hj
      rcases (show j = 0 ∨ j = 1 ∨ j = 2 ∨ j = 3 ∨ j = 4 by omega) with rfl | rfl | rfl | rfl | rfl
      · show k / 64 ≤ 7; omega
      · show k / 8 % 8 ≤ 7; omega
      · show k % 8 ≤ 7; omega
      · show p / 8 ≤ 7; omega
      · show p % 8 ≤ 7; omega
    have same : ∀ E, d7 E → num E < 64 * (k + 1) → ¬ num E < 64 * k → E 0 = k / 64 ∧ E 1 = k / 8 % 8 ∧ E 2 = k % 8 ∧ num E = 64 * k + (8 * E 3 + E 4) := by
      intro E hE h1 h2
      have a0 := hE 0 (by omega); have a1 := hE 1 (by omega); have a2 := hE 2 (by omega); have a3 := hE 3 (by omega); have a4 := hE 4 (by omega)
      unfold num at h1 h2 ⊢
      omega
    generalize hw : (jg_v (nI (k / 64)) (nI (k / 8 % 8)) (nI (k % 8)) t).1 = wd
    have bit : ∀ E, d7 E → E 0 = k / 64 → E 1 = k / 8 % 8 → E 2 = k % 8 → vl E t = if bz wd (8 * E 3 + E 4) = true then 1 else 0 := by
      intro E hE e0 e1 e2
      rw [vl_bit hE hF, e0, e1, e2, hw]
    by_cases wz : wd ^^^ (-1) = 0
    · have all : ∀ p, p < 64 → bz wd p = true := by
        intro p hp
        have := bz_not wd ⟨p, hp⟩
        rw [wz, bz_0 ⟨p, hp⟩] at this
        cases hb : bz wd p with
        | true => rfl
        | false =>
          have t2 : false = !bz wd p := this
          rw [hb] at t2
          cases t2
      refine ia_go 2 rfl ?_
      refine ia_go 3 rfl ?_
      rw [if_neg (by exact (nI_ge (b := 512) hk5 (by omega)))]
      refine ia_go 3 rfl ?_
      rw [b6]
      refine ia_go 1 rfl ?_
      dsimp only [ia_s1, ia_s2, ia_cl, ia_D, List.getElem?_cons_zero, List.getElem?_cons_succ, List.set_cons_zero, List.set_cons_succ]
      refine ia_go 5 rfl ?_
      rw [b3]
      refine ia_go 1 rfl ?_
      dsimp only [ia_s1, ia_s2, ia_cl, ia_D, List.getElem?_cons_zero, List.getElem?_cons_succ, List.set_cons_zero, List.set_cons_succ]
      refine ia_go 3 rfl ?_
      rw [b0]
      refine ia_go 1 rfl ?_
      dsimp only [ia_s1, ia_s2, ia_cl, ia_D, List.getElem?_cons_zero, List.getElem?_cons_succ, List.set_cons_zero, List.set_cons_succ]
      refine ia_go 1 rfl ?_
      refine ia_getf rfl y0' rfl ?_
      refine ia_go 4 rfl ?_
      refine jd_cV 72 [.ref a, .int (nI (k / 64)), .int (nI (k / 8 % 8)), .int (nI (k % 8))] [] 0 0 (d' := d - 1) rfl rfl rfl m72 rfl rfl (by omega) (by omega) (by omega) (jg_truths (by omega) hX.1 hT (hF []) hl) ?_
      rintro rv h' ⟨rfl, E1, E2, E3, hX'⟩
      refine ia_ldc2 rfl ?_
      rw [hw]
      refine ia_go 2 rfl ?_
      dsimp only [ia_s1, ia_s2, ia_cl, ia_D, List.getElem?_cons_zero, List.getElem?_cons_succ, List.set_cons_zero, List.set_cons_succ]
      refine ia_go 4 rfl ?_
      rw [if_pos (by exact (lg_0.mpr wz))]
      refine ia_go 1 rfl ?_
      dsimp only [ia_s1, ia_s2, ia_cl, ia_D, List.getElem?_cons_zero, List.getElem?_cons_succ, List.set_cons_zero, List.set_cons_succ]
      refine ia_go 1 rfl ?_
      rw [show nI k + Int32.ofInt 1 = nI (k + 1) from nI_1 k]
      refine ih (k + 1) (by omega) (fun E hE h1 => ?_) h' E1 E2 E3 1 _ _ _ _ _ _ (hX.tr hX')
      by_cases h2 : num E < 64 * k
      · exact hv E hE h2
      · obtain ⟨e0, e1, e2, -⟩ := same E hE h1 h2
        have a3 := hE 3 (by omega); have a4 := hE 4 (by omega)
        rw [bit E hE e0 e1 e2, if_pos (all _ (by omega))]
        decide
    · obtain ⟨p, p64, p1, p2⟩ := bz_low wz
      have nb : ∀ q, q < 64 → bz (wd ^^^ (-1)) q = !bz wd q := fun q hq => bz_not wd ⟨q, hq⟩
      obtain ⟨x3, x7⟩ := xz_3 ⟨p, p64⟩
      have x3 : nI p >>> ((3 : Int32) &&& 31) = nI (p / 8) := x3
      have x7 : nI p &&& 7 = nI (p % 8) := x7
      have fals : rfd t (fun j => if j = 0 then k / 64 else if j = 1 then k / 8 % 8 else if j = 2 then k % 8 else if j = 3 then p / 8 else p % 8) := by
        refine ⟨d5 p p64, ?_, fun E hE hn => ?_⟩
        · rw [bit _ (d5 p p64) rfl rfl rfl]
          show (if bz wd (8 * (p / 8) + p % 8) = true then (1 : Int32) else 0) = 0
          rw [show 8 * (p / 8) + p % 8 = p by omega]
          have := nb p p64
          rw [p1] at this
          rw [if_neg]
          intro z
          rw [z] at this
          cases this
        · have nD : num (fun j => if j = 0 then k / 64 else if j = 1 then k / 8 % 8 else if j = 2 then k % 8 else if j = 3 then p / 8 else p % 8) = 64 * k + p := by
            show 4096 * (k / 64) + 512 * (k / 8 % 8) + 64 * (k % 8) + 8 * (p / 8) + p % 8 = 64 * k + p
            omega
          rw [nD] at hn
          by_cases h2 : num E < 64 * k
          · exact hv E hE h2
          · obtain ⟨e0, e1, e2, e3⟩ := same E hE (by omega) h2
            have a3 := hE 3 (by omega); have a4 := hE 4 (by omega)
            rw [bit E hE e0 e1 e2, if_pos]
            · decide
            · have := nb (8 * E 3 + E 4) (by omega)
              rw [p2 _ (by omega)] at this
              cases hb : bz wd (8 * E 3 + E 4) with
              | true => rfl
              | false => rw [hb] at this; cases this
      refine ia_go 2 rfl ?_
      refine ia_go 3 rfl ?_
      rw [if_neg (by exact (nI_ge (b := 512) hk5 (by omega)))]
      refine ia_go 3 rfl ?_
      rw [b6]
      refine ia_go 1 rfl ?_
      dsimp only [ia_s1, ia_s2, ia_cl, ia_D, List.getElem?_cons_zero, List.getElem?_cons_succ, List.set_cons_zero, List.set_cons_succ]
      refine ia_go 5 rfl ?_
      rw [b3]
      refine ia_go 1 rfl ?_
      dsimp only [ia_s1, ia_s2, ia_cl, ia_D, List.getElem?_cons_zero, List.getElem?_cons_succ, List.set_cons_zero, List.set_cons_succ]
      refine ia_go 3 rfl ?_
      rw [b0]
      refine ia_go 1 rfl ?_
      dsimp only [ia_s1, ia_s2, ia_cl, ia_D, List.getElem?_cons_zero, List.getElem?_cons_succ, List.set_cons_zero, List.set_cons_succ]
      refine ia_go 1 rfl ?_
      refine ia_getf rfl y0' rfl ?_
      refine ia_go 4 rfl ?_
      refine jd_cV 72 [.ref a, .int (nI (k / 64)), .int (nI (k / 8 % 8)), .int (nI (k % 8))] [] 0 0 (d' := d - 1) rfl rfl rfl m72 rfl rfl (by omega) (by omega) (by omega) (jg_truths (by omega) hX.1 hT (hF []) hl) ?_
      rintro rv h' ⟨rfl, E1, E2, E3, hX'⟩
      refine ia_ldc2 rfl ?_
      rw [hw]
      refine ia_go 2 rfl ?_
      dsimp only [ia_s1, ia_s2, ia_cl, ia_D, List.getElem?_cons_zero, List.getElem?_cons_succ, List.set_cons_zero, List.set_cons_succ]
      refine ia_go 4 rfl ?_
      rw [if_neg (by exact (fun z => wz (lg_0.mp z)))]
      refine ia_go 1 rfl ?_
      refine jd_cS [.long (wd ^^^ (-1))] [] 0 0 (d' := d - 1) rfl rfl rfl rfl rfl (by omega) (by omega) (by omega) (nz_lo p64 p1 p2 (by omega)) ?_
      rintro rv h'' ⟨rfl, hh⟩
      refine ia_go 1 rfl ?_
      dsimp only [ia_s1, ia_s2, ia_cl, ia_D, List.getElem?_cons_zero, List.getElem?_cons_succ, List.set_cons_zero, List.set_cons_succ]
      refine ia_go 1 rfl ?_
      subst hh
      have hXX := hX.tr hX'
      have y1 : h''.1 64 = _ := (hXX.2.1.2 64 (by omega) (fun z => by have : 72 ≤ 64 := z.1; omega)).trans y0
      have f1 : h''.1 111 = _ := (hXX.2.1.2 111 (by omega) (fun z => by have : 111 ≤ 75 := z.2; omega)).trans e111
      refine ia_getf rfl y1 rfl ?_
      refine ia_go 2 rfl ?_
      refine ia_iast rfl f1 (by omega) (by unfold vp_in; decide) ?_
      refine ia_go 1 rfl ?_
      refine ia_getf rfl y1 rfl ?_
      refine ia_go 2 rfl ?_
      refine ia_iast rfl rfl (by omega) (by unfold vp_in; decide) ?_
      refine ia_go 1 rfl ?_
      refine ia_getf rfl y1 rfl ?_
      refine ia_go 2 rfl ?_
      refine ia_iast rfl rfl (by omega) (by unfold vp_in; decide) ?_
      refine ia_go 1 rfl ?_
      refine ia_getf rfl y1 rfl ?_
      refine ia_go 4 rfl ?_
      rw [x3]
      refine ia_iast rfl rfl (by omega) (by unfold vp_in; decide) ?_
      refine ia_go 1 rfl ?_
      refine ia_getf rfl y1 rfl ?_
      refine ia_go 4 rfl ?_
      rw [x7]
      refine ia_iast rfl rfl (by omega) (by unfold vp_in; decide) ?_
      refine ia_go 1 rfl ?_
      refine jd_rv1 rfl rfl rfl rfl (Or.inl ⟨rfl, _, fals, ⟨E1, E2, E3, 1, ?_⟩, ⟨_, rfl, fun j hj => ?_⟩, ⟨hXX.2.1.1, fun q hq hS => ?_⟩, hXX.2.2⟩)
      · obtain ⟨q1, q2, q3, q4, q5⟩ := hXX.1
        exact ⟨q1, q2, q3, q4, q5⟩
      · rcases (show j = 0 ∨ j = 1 ∨ j = 2 ∨ j = 3 ∨ j = 4 by omega) with rfl | rfl | rfl | rfl | rfl <;> rfl
      · refine ((ia_up_ne (fun z => hS (Or.inr z))).trans ((ia_up_ne (fun z => hS (Or.inr z))).trans ((ia_up_ne (fun z => hS (Or.inr z))).trans ((ia_up_ne (fun z => hS (Or.inr z))).trans (ia_up_ne (fun z => hS (Or.inr z))))))).trans (hXX.2.1.2 q hq (fun z => hS (Or.inl z)))
theorem cl_ref {G : ia_G} {h0 : ia_H} {d a rr : Nat} {c : Int32} {t : List Int32} {f : Nat → Value} (hd : 6 ≤ d) (y0 : cx_0 h0 c rr) (hF : tx_F t) (hl : t.length ≤ 120) (hT0 : sx_t h0 a t) (e111 : h0.1 111 = some (.inl (.int, 5, f))) (h2 : 142 ≤ h0.2) (hj0 : cx_jg h0) : ia_Cn pg G kk_R_isRefuted d 0 0 [.ref 64, .ref a] h0 (fun rv h' => (rv = some (.int 1) ∧ ∃ D, rfd t D ∧ rfR h0 h' D) ∨ (rv = some (.int 0) ∧ (∀ E, d7 E → vl E t ≠ 0) ∧ ∃ F1 F2 F3 n, jg_X h0 h' F1 F2 F3 n)) := by
  have hj := hj0
  obtain ⟨F1, F2, F3, n, hj1⟩ := hj
  refine jd_met (ls := [.ref 64, .ref a, .retAddr 0, .retAddr 0, .retAddr 0, .retAddr 0, .retAddr 0, .retAddr 0, .retAddr 0]) rfl rfl rfl ?_
  refine ia_go 2 rfl ?_
  dsimp only [ia_s1, ia_s2, ia_cl, ia_D, List.getElem?_cons_zero, List.getElem?_cons_succ, List.set_cons_zero, List.set_cons_succ]
  exact cl_rtloop hd y0 hF hl hT0 e111 h2 hj0 512 0 (by omega) (fun E _ z => absurd z (by omega)) h0 F1 F2 F3 n _ _ _ _ _ _ hj1.X
theorem cl_ref0 {G : ia_G} {h0 : ia_H} {d : Nat} : ia_Cn pg G kk_R_isRefuted d 0 0 [.ref 64, .null] h0 (fun rv h' => rv = some (.int 0) ∧ h' = h0) := by
  refine jd_met (ls := [.ref 64, .null, .retAddr 0, .retAddr 0, .retAddr 0, .retAddr 0, .retAddr 0, .retAddr 0, .retAddr 0]) rfl rfl rfl ?_
  refine ia_go 2 rfl ?_
  dsimp only [ia_s1, ia_s2, ia_cl, ia_D, List.getElem?_cons_zero, List.getElem?_cons_succ, List.set_cons_zero, List.set_cons_succ]
  refine ia_go 2 rfl ?_
  refine ia_go 1 rfl ?_
  exact jd_rv1 rfl rfl rfl rfl ⟨rfl, rfl⟩
/-- the judge has worked, and the refuting state may be another -/
theorem CY.jd {A : aS} {h h' : ia_H} {u c1 v c2 : Nat} {na sa : Nat → Nat} {D : Nat → Int32} (y : CY A h u c1 v c2 na sa) (hj : cx_jg h') (h111 : ∃ g, h'.1 111 = some (.inl (.int, 5, g)) ∧ ∀ j, j < 5 → g j = .int (D j)) (hf : sx_fr h h' (fun q => jg_S q ∨ q = 111)) : CY (aB A, aQ A, aN A, aR A, D, aW A) h' u c1 v c2 na sa ∧ sx_fr h h' cx_S ∧ ks h h' u v u v := by
  obtain ⟨⟨y0, yb, ysl, ynd, ydr, yjg, ycd, yar, yk⟩, ⟨v1, v2, v3, v4⟩, yn⟩ := y
  have lb := yb.lt
  have ld := ydr.2.lt
  have z : ∀ q, q < h.2 → (q < 72 ∨ 75 < q) → q ≠ 111 → h'.1 q = h.1 q := fun q q1 q2 q3 => hf.2 q q1 (fun w => by
    rcases w with w | w
    · have := w.1; have := w.2; omega
    · exact q3 w)
  have zc : ∀ q, q < 117 → (q < 72 ∨ 75 < q) → q ≠ 111 → h'.1 q = h.1 q := fun q q1 q2 q3 => z q (by omega) q2 q3
  have k : ks h h' u v u v := by
    refine ks_fr hf (fun q hq => ?_) (Or.inl rfl) (Or.inl rfl)
    right; right
    rcases hq with hq | rfl
    · obtain ⟨F1, F2, F3, n, j⟩ := yjg
      exact jg_off j q hq
    · obtain ⟨⟨f, e, -⟩, -⟩ := yar
      exact ⟨fun r w => (by rw [e] at w; cases w), fun n f w => (by rw [e] at w; cases w)⟩
  refine ⟨⟨⟨(zc 64 (by omega) (by omega) (by omega)).trans y0, yb.keep (zc 65 (by omega) (by omega) (by omega)) (z u lb.2.1 (by omega) (by omega)) hf.1, ysl.keep k (zc 67 (by omega) (by omega) (by omega)) (fun i hi => zc _ (by omega) (by omega) (by omega)), ynd.keep (zc 68 (by omega) (by omega) (by omega)), ydr.keep (zc 69 (by omega) (by omega) (by omega)) (zc 70 (by omega) (by omega) (by omega)) (z v ld.2.1 (by omega) (by omega)) hf.1, hj, ycd.keep (fun q _ _ => zc q (by omega) (by omega) (by omega)), ⟨h111, ?_⟩, yk.keep k⟩, ⟨v1, v2, v3, by have := hf.1; omega⟩, yn.keep k (fun q q1 q2 _ => z q q2 (by omega) (by omega)) hf.1⟩, hf.mono (fun q hq => ?_), k⟩
  · obtain ⟨-, f, e, g⟩ := yar
    exact ⟨f, (zc 112 (by omega) (by omega) (by omega)).trans e, g⟩
  · unfold cx_S rm_S
    rcases hq with hq | hq
    · have := hq.1; have := hq.2; omega
    · omega
/-- proved -/
theorem CY.pv {A : aS} {h : ia_H} {u c1 v c2 n : Nat} {na sa : Nat → Nat} {c1' c2' pt : Value} {vv b : Int32} (y : CY A h u c1 v c2 na sa) (n1 : 1 ≤ n) (n2 : n ≤ 16) (n3 : zE (aN A n) = true) (l : zL (aN A n) ≠ 0) (es : h.1 (sa n) = some (.inr (7, [.int (nI (zL (aN A n))), rn na (zK (aN A n)), rn na (zM (aN A n)), c1', c2', .int b, .int vv, pt]))) : CY (aB A, aQ A, upN (aN A) n (pvN (aN A n)), A.2.2.2) (ia_up h.1 (sa n) (.inr (7, [.int (nI (zL (aN A n))), rn na (zK (aN A n)), rn na (zM (aN A n)), c1', c2', .int 1, .int vv, pt])), h.2) u c1 v c2 na sa ∧ sx_fr h (ia_up h.1 (sa n) (.inr (7, [.int (nI (zL (aN A n))), rn na (zK (aN A n)), rn na (zM (aN A n)), c1', c2', .int 1, .int vv, pt])), h.2) cx_S := by
  obtain ⟨⟨y0, yb, ysl, ynd, ydr, yjg, ycd, yar, yk⟩, ⟨v1, v2, v3, v4⟩, yn⟩ := y
  have lb := yb.lt
  have ld := ydr.2.lt
  generalize hH : (ia_up h.1 (sa n) (.inr (7, [.int (nI (zL (aN A n))), rn na (zK (aN A n)), rn na (zM (aN A n)), c1', c2', .int 1, .int vv, pt])), h.2) = H
  have e2 : H.2 = h.2 := by rw [← hH]
  have eS : H.1 (sa n) = some (.inr (7, [.int (nI (zL (aN A n))), rn na (zK (aN A n)), rn na (zM (aN A n)), c1', c2', .int 1, .int vv, pt])) := by rw [← hH]; exact ia_up_same
  have z : ∀ q, q ≠ sa n → H.1 q = h.1 q := fun q hq => by rw [← hH]; exact ia_up_ne hq
  obtain ⟨a0, a1, st, e, t0, t1, nb, -, ys⟩ := yn.1 n n1 n2 n3
  obtain ⟨rfl, d1, d2, dv, dp, de, cd1, cd2, hv, hp, s1, s2⟩ := ys l
  rw [es] at de
  injection de with de
  injection de with de
  injection de with _ de
  injection de with _ de
  injection de with _ de
  injection de with _ de
  injection de with q1 de
  injection de with q2 de
  injection de with _ de
  injection de with q3 de
  injection de with q4 _
  subst q1
  subst q2
  subst q4
  injection q3 with q3
  subst q3
  have un : u ≠ sa n := fun w => by
    obtain ⟨nn, ff, q⟩ := lb.2.2.1
    rw [w, es] at q; cases q
  have vn : v ≠ sa n := fun w => by
    obtain ⟨nn, ff, q⟩ := ld.2.2.1
    rw [w, es] at q; cases q
  have hf : sx_fr h H (fun q => q = sa n) := ⟨by omega, fun q _ hq => z q hq⟩
  have k : ks h H u v u v := by
    refine ks_fr hf (fun q hq => ?_) (Or.inl rfl) (Or.inl rfl)
    right; right
    rw [hq]
    exact ⟨fun r w => (by rw [es] at w; cases w), fun n f w => (by rw [es] at w; cases w)⟩
  refine ⟨⟨⟨(z 64 (by omega)).trans y0, yb.keep (z 65 (by omega)) (z u un) (by omega), ysl.keep k (z 67 (by omega)) (fun i hi => z _ (by omega)), ?_, ydr.keep (z 69 (by omega)) (z 70 (by omega)) (z v vn) (by omega), yjg.keep (fun q _ _ => z q (by omega)), ycd.keep (fun q _ _ => z q (by omega)), yar.keep (z 111 (by omega)) (z 112 (by omega)), yk.keep k⟩, ⟨v1, v2, v3, by omega⟩, fun m m1 m2 m3 => ?_, fun m m' m1 m2 m1' m2' m3 m3' l1 l2 es' => ?_⟩, hf.mono (fun q hq => by rw [hq]; unfold cx_S rm_S; omega)⟩
  · obtain ⟨f, e68, g68⟩ := ynd
    refine ⟨f, (z 68 (by omega)).trans e68, fun m m1 m2 => ?_⟩
    rw [g68 m m1 m2]
    show _ = if zE (upN (aN A) n (pvN (aN A n)) m) = true then Value.ref (na m) else .null
    by_cases em : m = n
    · rw [em, upN_same]; rfl
    · rw [upN_ne em]
  · have m3' : zE (upN (aN A) n (pvN (aN A n)) m) = true := m3
    show cx_n H u v na sa (upN (aN A) n (pvN (aN A n)) m) m
    by_cases em : m = n
    · subst em
      rw [upN_same]
      exact ⟨a0, a1, .ref (sa m), (z _ (fun w => by rw [w, es] at e; cases e)).trans e, k _ _ t0, k _ _ t1, ⟨nb.1, by omega⟩, fun w => absurd w l, fun _ => ⟨rfl, _, _, _, _, eS, cd1.keep k, cd2.keep k, hv, fun w => by obtain ⟨a, ea, ta⟩ := hp w; exact ⟨a, ea, k _ _ ta⟩, s1, by omega⟩⟩
    · rw [upN_ne em] at m3' ⊢
      have ym := yn.1 m m1 m2 m3'
      refine ym.keep k (z _ ?_) (fun lm => z _ (fun w => em (yn.2 m n m1 m2 n1 n2 m3' n3 lm l w))) (by omega)
      obtain ⟨b0, b1, st', e', -⟩ := ym
      exact fun w => by rw [w, es] at e'; cases e'
  · have ex : ∀ k, zE (upN (aN A) n (pvN (aN A n)) k) = zE (aN A k) ∧ zL (upN (aN A) n (pvN (aN A n)) k) = zL (aN A k) := by
      intro k
      by_cases ek : k = n
      · rw [ek, upN_same]; exact ⟨rfl, rfl⟩
      · rw [upN_ne ek]; exact ⟨rfl, rfl⟩
    exact yn.2 m m' m1 m2 m1' m2' ((ex m).1 ▸ m3) ((ex m').1 ▸ m3') ((ex m).2 ▸ l1) ((ex m').2 ▸ l2) es'
theorem cl_pv55 {G : ia_G} {h h1 : ia_H} {d u c1 v c2 n : Nat} {na sa : Nat → Nat} {A : aS} {x : Int32} (y : CY A h1 u c1 v c2 na sa) (n1 : 1 ≤ n) (n2 : n ≤ 16) (n3 : zE (aN A n) = true) (l : zL (aN A n) ≠ 0) (hf : sx_fr h h1 cx_S) : ia_Sx pg G kk_R_prove d 0 0 55 [.ref 64, .int x, .ref (na n), .ref (sa n)] [] h1 (cx_P h 0 ((aB A, aQ A, upN (aN A) n (pvN (aN A n)), A.2.2.2), 1)) := by
  obtain ⟨a0, a1, st, e, -, -, -, -, ys⟩ := y.2.2.1 n n1 n2 n3
  obtain ⟨-, k1, k2, vv, pt, es, -, -, -, -, s1, -⟩ := ys l
  have yp := y.pv n1 n2 n3 l es
  refine ia_go 2 rfl ?_
  refine ia_putf rfl es (by omega) rfl rfl rfl rfl ?_
  refine ia_go 1 rfl ?_
  exact jd_rv1 rfl rfl rfl trivial ⟨rfl, ⟨_, _, _, _, _, _, yp.1⟩, hf.tr yp.2, Nat.le_refl _⟩
theorem cl_pv0 {h h1 h2 : ia_H} {u c1 v c2 i : Nat} {na sa : Nat → Nat} {A : aS} {C : List (List Int32)} {U : List Int32} {D : Nat → Nat} (y : CY A h1 u c1 v c2 na sa) (hf : sx_fr h h1 cx_S) (hC : C[i]? = some U) (hv : ∀ j V, j < i → C[j]? = some V → ∀ E, d7 E → vl E V ≠ 0) (hD : rfd U D) (hR : rfR h1 h2 D) : cx_P h 0 ((aB A, aQ A, aN A, aR A, prE C, aW A), 0) (some (.int 0)) h2 := by
  rw [prE_eq (C := C) ⟨i, U, D, hC, hv, hD, rfl⟩]
  obtain ⟨hj, ⟨g, e, hg⟩, hfr, hs⟩ := hR
  obtain ⟨z1, z2, -⟩ := y.jd (D := fun j => if j < 5 then nI (D j) else 0) hj ⟨g, e, fun j hj => by rw [hg j hj, if_pos hj]⟩ hfr
  exact ⟨rfl, ⟨_, _, _, _, _, _, z1⟩, hf.tr z2, Nat.le_refl _⟩
/-- a condition that holds: the state is as it was -/
theorem CY.jv {A : aS} {h h' : ia_H} {u c1 v c2 n : Nat} {na sa : Nat → Nat} {F1 F2 F3 : Nat → Int64} (y : CY A h u c1 v c2 na sa) (hX : jg_X h h' F1 F2 F3 n) : CY A h' u c1 v c2 na sa ∧ sx_fr h h' cx_S ∧ ks h h' u v u v := by
  obtain ⟨⟨f, e, g⟩, -⟩ := y.1.2.2.2.2.2.2.2.1
  have v4 := y.2.1.2.2.2
  exact y.jd (D := aD A) ⟨F1, F2, F3, n, hX.1⟩ ⟨f, (hX.2.1.2 111 (by omega) (fun z => by have := z.2; omega)).trans e, g⟩ (hX.2.1.mono (fun q z => Or.inl z))
theorem cx_prove {G : ia_G} {h : ia_H} {d : Nat} {A : aS} {x : Int32} (hd : 7 ≤ d) (y : CX A h) (hA : AI A) : ia_Cn pg G kk_R_prove d 0 0 [.ref 64, .int x] h (cx_P h 0 (sp_prove A x)) := by
  have y' := y
  obtain ⟨u, c1, v, c2, na, sa, yy⟩ := y
  have y0 := yy.1.1
  have ynd := yy.1.2.2.2.1
  have h5 := hA.2.2.2.2
  have v4 := yy.2.1.2.2.2
  have cf := cl_find (G := G) (d := d - 1) (x := x) y0 ynd
  by_cases hn : nod (aN A) x = 0
  · rw [show sp_prove A x = (A, -1) by unfold sp_prove; rw [if_pos hn]]
    rw [hn] at cf
    refine jd_met (ls := [.ref 64, .int x, .retAddr 0, .retAddr 0]) rfl rfl rfl ?_
    refine ia_go 2 rfl ?_
    refine jd_cV 64 [.int x] [] 0 0 (d' := d - 1) rfl rfl rfl y0 rfl rfl (by omega) (by omega) (by omega) (cf) ?_
    rintro rv h' ⟨rfl, hh⟩
    subst hh
    rw [show rn na 0 = .null from rfl]
    refine ia_go 1 rfl ?_
    dsimp only [ia_s1, ia_s2, ia_cl, ia_D, List.getElem?_cons_zero, List.getElem?_cons_succ, List.set_cons_zero, List.set_cons_succ]
    refine ia_go 2 rfl ?_
    refine ia_go 1 rfl ?_
    exact jd_rv1 rfl rfl rfl trivial (cx_same y')
  obtain ⟨⟨n1, n2⟩, -, n3⟩ := nod_in hn
  rw [show rn na (nod (aN A) x) = .ref (na (nod (aN A) x)) from if_neg hn] at cf
  have esp : sp_prove A x = if zL (aN A (nod (aN A) x)) = 0 then (A, -2) else ch (vaL (cL (aN A (nod (aN A) x)))) ((aB A, aQ A, upN (aN A) (nod (aN A) x) (pvN (aN A (nod (aN A) x))), A.2.2.2), 1) ((aB A, aQ A, aN A, aR A, prE (cL (aN A (nod (aN A) x))), aW A), 0) := by
    unfold sp_prove
    rw [if_neg hn]
    rfl
  rw [esp]
  generalize nod (aN A) x = n at n1 n2 n3 cf hn
  obtain ⟨a0, a1, st, en, -, -, -, st0, st1⟩ := id (yy.2.2.1 n n1 n2 n3)
  by_cases l : zL (aN A n) = 0
  · obtain rfl := st0 l
    rw [if_pos l]
    refine jd_met (ls := [.ref 64, .int x, .retAddr 0, .retAddr 0]) rfl rfl rfl ?_
    refine ia_go 2 rfl ?_
    refine jd_cV 64 [.int x] [] 0 0 (d' := d - 1) rfl rfl rfl y0 rfl rfl (by omega) (by omega) (by omega) (cf) ?_
    rintro rv h' ⟨rfl, hh⟩
    subst hh
    refine ia_go 1 rfl ?_
    dsimp only [ia_s1, ia_s2, ia_cl, ia_D, List.getElem?_cons_zero, List.getElem?_cons_succ, List.set_cons_zero, List.set_cons_succ]
    refine ia_go 2 rfl ?_
    refine ia_go 1 rfl ?_
    refine ia_getf rfl en rfl ?_
    refine ia_go 1 rfl ?_
    dsimp only [ia_s1, ia_s2, ia_cl, ia_D, List.getElem?_cons_zero, List.getElem?_cons_succ, List.set_cons_zero, List.set_cons_succ]
    refine ia_go 2 rfl ?_
    refine ia_go 1 rfl ?_
    exact jd_rv1 rfl rfl rfl trivial (cx_same y')
  rw [if_neg l]
  obtain ⟨rfl, ys⟩ := st1 l
  obtain ⟨k1, k2, vv, pt, es, q1, q2, -, -, sa1, sa2⟩ := id ys
  obtain ⟨-, -, -, -, -, tF, -, -, hO⟩ := h5 n n1 n2 n3
  have nc := ncw_le (zL (aN A n))
  by_cases o : zO (aN A n) = true
  · rw [ch_pos (hO o).2]
    rw [if_pos o] at es
    refine jd_met (ls := [.ref 64, .int x, .retAddr 0, .retAddr 0]) rfl rfl rfl ?_
    refine ia_go 2 rfl ?_
    refine jd_cV 64 [.int x] [] 0 0 (d' := d - 1) rfl rfl rfl y0 rfl rfl (by omega) (by omega) (by omega) (cf) ?_
    rintro rv h' ⟨rfl, hh⟩
    subst hh
    refine ia_go 1 rfl ?_
    dsimp only [ia_s1, ia_s2, ia_cl, ia_D, List.getElem?_cons_zero, List.getElem?_cons_succ, List.set_cons_zero, List.set_cons_succ]
    refine ia_go 2 rfl ?_
    refine ia_go 1 rfl ?_
    refine ia_getf rfl en rfl ?_
    refine ia_go 1 rfl ?_
    dsimp only [ia_s1, ia_s2, ia_cl, ia_D, List.getElem?_cons_zero, List.getElem?_cons_succ, List.set_cons_zero, List.set_cons_succ]
    refine ia_go 2 rfl ?_
    refine ia_go 1 rfl ?_
    refine ia_getf rfl es rfl ?_
    refine ia_go 1 rfl ?_
    rw [if_pos (by exact (by decide))]
    exact cl_pv55 yy n1 n2 n3 l sx_fr.rf
  rw [if_neg o] at es
  have pre : ∀ {Post : Option Value → ia_H → Prop}, ia_Sx pg G kk_R_prove d 0 0 31 [.ref 64, .int x, .ref (na n), .ref (sa n)] [] h Post → ia_Cn pg G kk_R_prove d 0 0 [.ref 64, .int x] h Post := by
    intro Post kk
    refine jd_met (ls := [.ref 64, .int x, .retAddr 0, .retAddr 0]) rfl rfl rfl ?_
    refine ia_go 2 rfl ?_
    refine jd_cV 64 [.int x] [] 0 0 (d' := d - 1) rfl rfl rfl y0 rfl rfl (by omega) (by omega) (by omega) (cf) ?_
    rintro rv h' ⟨rfl, hh⟩
    subst hh
    refine ia_go 1 rfl ?_
    dsimp only [ia_s1, ia_s2, ia_cl, ia_D, List.getElem?_cons_zero, List.getElem?_cons_succ, List.set_cons_zero, List.set_cons_succ]
    refine ia_go 2 rfl ?_
    refine ia_go 1 rfl ?_
    refine ia_getf rfl en rfl ?_
    refine ia_go 1 rfl ?_
    dsimp only [ia_s1, ia_s2, ia_cl, ia_D, List.getElem?_cons_zero, List.getElem?_cons_succ, List.set_cons_zero, List.set_cons_succ]
    refine ia_go 2 rfl ?_
    refine ia_go 1 rfl ?_
    refine ia_getf rfl es rfl ?_
    refine ia_go 1 rfl ?_
    rw [if_neg (by exact (by decide))]
    exact kk
  refine pre ?_
  obtain ⟨⟨f111, e111, g111⟩, -⟩ := yy.1.2.2.2.2.2.2.2.1
  rcases (show ncw (zL (aN A n)) = 0 ∨ 1 ≤ ncw (zL (aN A n)) by omega) with c0 | c0
  · obtain rfl := q1.2 (by omega)
    obtain rfl := q2.2 (by omega)
    rw [ch_pos (show vaL (cL (aN A n)) by intro U hU; unfold cL at hU; rw [c0] at hU; cases hU)]
    refine ia_go 2 rfl ?_
    refine ia_getf rfl es rfl ?_
    refine jd_cV 64 [.null] [] 0 0 (d' := d - 1) rfl rfl rfl y0 rfl rfl (by omega) (by omega) (by omega) (cl_ref0) ?_
    rintro rv h' ⟨rfl, hh⟩
    subst hh
    refine ia_go 1 rfl ?_
    rw [if_neg (by exact (by decide))]
    refine ia_go 2 rfl ?_
    refine ia_getf rfl es rfl ?_
    refine jd_cV 64 [.null] [] 0 0 (d' := d - 1) rfl rfl rfl y0 rfl rfl (by omega) (by omega) (by omega) (cl_ref0) ?_
    rintro rv h' ⟨rfl, hh⟩
    subst hh
    refine ia_go 1 rfl ?_
    rw [if_pos (by exact (by decide))]
    exact cl_pv55 yy n1 n2 n3 l sx_fr.rf
  · obtain ⟨b1, rfl, t1⟩ := q1.1 c0
    have tF2 := tF 2 (by omega)
    have g0 : (cL (aN A n))[0]? = some (zT (aN A n) 2) := cL_at (by omega)
    refine ia_go 2 rfl ?_
    refine ia_getf rfl es rfl ?_
    refine jd_cV 64 [.ref b1] [] 0 0 (d' := d - 1) rfl rfl rfl y0 rfl rfl (by omega) (by omega) (by omega) (cl_ref (by omega) y0 tF2.1 tF2.2 t1.s e111 v4 yy.1.2.2.2.2.2.1) ?_
    rintro rv h1 hr
    obtain ⟨rfl, D, hD, hR⟩ | ⟨rfl, hv1, F1, F2, F3, nj, hX⟩ := hr
    · rw [ch_neg (fun z : vaL (cL (aN A n)) => z _ (List.mem_of_getElem? g0) D hD.1 hD.2.1)]
      refine ia_go 1 rfl ?_
      rw [if_pos (by exact (by decide))]
      refine ia_go 1 rfl ?_
      exact jd_rv1 rfl rfl rfl trivial (cl_pv0 yy sx_fr.rf g0 (fun j V hj => absurd hj (by omega)) hD hR)
    · obtain ⟨y1, f1, ks1⟩ := yy.jv hX
      have es1 : h1.1 (sa n) = _ := (hX.2.1.2 (sa n) sa2 (fun z => by have := z.2; omega)).trans es
      rcases (show ncw (zL (aN A n)) = 1 ∨ 2 ≤ ncw (zL (aN A n)) by omega) with c1' | c2'
      · obtain rfl := q2.2 (by omega)
        rw [ch_pos (show vaL (cL (aN A n)) by
          intro U hU
          obtain ⟨i, hi⟩ := List.getElem?_of_mem hU
          obtain ⟨i1, rfl⟩ := cL_get hi
          rw [show i = 0 by omega]
          exact hv1)]
        refine ia_go 1 rfl ?_
        rw [if_neg (by exact (fun z => z rfl))]
        refine ia_go 2 rfl ?_
        refine ia_getf rfl es1 rfl ?_
        refine jd_cV 64 [.null] [] 0 0 (d' := d - 1) rfl rfl rfl y1.1.1 rfl rfl (by omega) (by omega) (by omega) (cl_ref0) ?_
        rintro rv h2 ⟨rfl, hh⟩
        subst hh
        refine ia_go 1 rfl ?_
        rw [if_pos (by exact (by decide))]
        exact cl_pv55 y1 n1 n2 n3 l f1
      · obtain ⟨b2, rfl, t2⟩ := q2.1 c2'
        have tF3 := tF 3 (by omega)
        have g1 : (cL (aN A n))[1]? = some (zT (aN A n) 3) := cL_at (by omega)
        obtain ⟨⟨f111', e111', g111'⟩, -⟩ := y1.1.2.2.2.2.2.2.2.1
        refine ia_go 1 rfl ?_
        rw [if_neg (by exact (fun z => z rfl))]
        refine ia_go 2 rfl ?_
        refine ia_getf rfl es1 rfl ?_
        refine jd_cV 64 [.ref b2] [] 0 0 (d' := d - 1) rfl rfl rfl y1.1.1 rfl rfl (by omega) (by omega) (by omega) (cl_ref (by omega) y1.1.1 tF3.1 tF3.2 (ks1 _ _ t2).s e111' y1.2.1.2.2.2 y1.1.2.2.2.2.2.1) ?_
        rintro rv h2 hr
        obtain ⟨rfl, D, hD, hR⟩ | ⟨rfl, hv2, F1', F2', F3', nj', hX'⟩ := hr
        · rw [ch_neg (fun z : vaL (cL (aN A n)) => z _ (List.mem_of_getElem? g1) D hD.1 hD.2.1)]
          refine ia_go 1 rfl ?_
          rw [if_neg (by exact (by decide))]
          refine ia_go 1 rfl ?_
          exact jd_rv1 rfl rfl rfl trivial (cl_pv0 y1 f1 g1 (fun j V hj hV => by rw [show j = 0 by omega, g0] at hV; cases hV; exact hv1) hD hR)
        · obtain ⟨y2, f2, -⟩ := y1.jv hX'
          rw [ch_pos (show vaL (cL (aN A n)) by
            intro U hU
            obtain ⟨i, hi⟩ := List.getElem?_of_mem hU
            obtain ⟨i1, rfl⟩ := cL_get hi
            rcases (show i = 0 ∨ i = 1 by omega) with rfl | rfl
            · exact hv1
            · exact hv2)]
          refine ia_go 1 rfl ?_
          rw [if_pos (by exact rfl)]
          exact cl_pv55 y2 n1 n2 n3 l (f1.tr f2)
