/-! THE CLASS, 10: refine. -/
theorem st_all {G : ia_G} {h0 : ia_H} {d u v0 x p q s0 s1 s3 w : Nat} {fr y : Int32} {M : List (Nat × List Int32)} {pT qT f0 f1 eT : List Int32} (hd : 8 ≤ d) (B : hb h0 v0 x fr p q s0 s1 s3) (hM : hm M p q s0 s1 s3 pT qT f0 f1 eT) (lp : pT.length ≤ 120) (lq : qT.length ≤ 120) (l0 : f0.length ≤ 120) (l1 : f1.length ≤ 120) (l3 : eT.length ≤ 120) (w1 : 1 ≤ w) (w8 : w ≤ 8) (hy : w = 2 → ((97 + y).toUInt32 % 65536).toInt32 = 97 + y) (X0 : sb h0 u v0 [] M True [] h0) : ia_Cn pg G kk_R_stepBy d 29 11070 [.ref 64, .ref x, .int (nI w), .int y] h0 (fun rv h' => rv = some (.ref h0.2) ∧ SR h0 u v0 x w y fr (rf_k w pT qT f0 f1 eT) (rf_c w y pT qT f0 f1 eT) (rf_g w f0 f1 eT) h') := by
  rcases (show w = 1 ∨ w = 2 ∨ w = 3 ∨ w = 4 ∨ w = 5 ∨ w = 6 ∨ w = 7 ∨ w = 8 by omega) with rfl | rfl | rfl | rfl | rfl | rfl | rfl | rfl
  · exact st_1 hd B hM lp lq l0 l1 l3 X0
  · exact st_2 hd B hM lp lq l0 l1 l3 (hy rfl) X0
  · exact st_3 hd B hM lp lq l0 l1 l3 X0
  · exact st_4 hd B hM lp lq l0 l1 l3 X0
  · exact st_5 hd B hM lp lq l0 l1 l3 X0
  · exact st_6 hd B hM lp lq l0 l1 l3 X0
  · exact st_7 hd B hM lp lq l0 l1 l3 X0
  · exact st_8 hd B hM lp lq l0 l1 l3 X0
theorem i2c_97 : ∀ k : Fin 3, ((97 + nI k.val).toUInt32 % 65536).toInt32 = 97 + nI k.val := by decide +kernel
/-- the draft is put by: the state is as it was -/
theorem CY.sb {A : aS} {h0 h' : ia_H} {u c1 v0 c20 v' c2' : Nat} {na sa : Nat → Nat} {tl : Int32} {L : List (Nat × ia_E)} {M : List (Nat × List Int32)} {P : Prop} (y : CY A h0 u c1 v0 c20 na sa) (x : sxv h0 u v0 L M P [] h' v' c2' tl) : CY A h' u c1 v' c2' na sa ∧ sx_fr h0 h' cx_S := by
  obtain ⟨⟨y0, yb, ysl, ynd, ydr, yjg, ycd, yar, yk⟩, ⟨v1, v2, v3, v4⟩, yn⟩ := y
  obtain ⟨⟨d1, b, d2, d3, d4⟩, b2, b3, b4, b5, b6, b7, b8, b9⟩ := x
  have lb := yb.lt
  have ld := ydr.2.lt
  have eb : b = [] := by
    rcases d3 with d3 | d3
    · exact d3
    · exact absurd d3.2 (by show ¬ 120 < 0; omega)
  subst eb
  have z : ∀ q, q < 117 → q ≠ 69 → q ≠ 70 → q ≠ 71 → h'.1 q = h0.1 q := fun q q1 q2 q3 q4 => b3.2 q (by omega) (fun z => by omega)
  refine ⟨⟨⟨(z 64 (by omega) (by omega) (by omega) (by omega)).trans y0, yb.keep (z 65 (by omega) (by omega) (by omega) (by omega)) (b3.2 u lb.2.1 (fun z => by omega)) b3.1, ysl.keep b5 (z 67 (by omega) (by omega) (by omega) (by omega)) (fun i hi => z _ (by omega) (by omega) (by omega) (by omega)), ynd.keep (z 68 (by omega) (by omega) (by omega) (by omega)), ⟨⟨tl, b2.elim (fun q => Or.inl q.1) (fun q => Or.inr q.1), d1⟩, d2⟩, yjg.keep (fun q _ _ => z q (by omega) (by omega) (by omega) (by omega)), ycd.keep (fun q _ _ => z q (by omega) (by omega) (by omega) (by omega)), yar.keep (z 111 (by omega) (by omega) (by omega) (by omega)) (z 112 (by omega) (by omega) (by omega) (by omega)), yk.keep b5⟩, b8, yn.keep b5 (fun q q1 q2 q3 => b3.2 q q2 (fun w => ?_)) b3.1⟩, b3.mono (fun q hq => by unfold cx_S rm_S; omega)⟩
  rcases w with w | w | w
  · omega
  · omega
  · obtain ⟨n, f, e⟩ := ld.2.2.1
    rw [w, e] at q3
    rcases q3 with ⟨r, q3⟩ | ⟨r, q3⟩ <;> cases q3
theorem CY.dr0 {A : aS} {h : ia_H} {u c1 v c2 : Nat} {na sa : Nat → Nat} (y : CY A h u c1 v c2 na sa) : CY A (ia_up h.1 69 (.inr (2, [.ref 70, .int 0])), h.2) u c1 v c2 na sa ∧ sx_fr h (ia_up h.1 69 (.inr (2, [.ref 70, .int 0])), h.2) cx_S := by
  have ydr := y.1.2.2.2.2.1
  obtain ⟨⟨t, t1, e69⟩, b⟩ := ydr
  have lb := y.1.2.1.lt
  have ld := b.lt
  obtain ⟨v1, v2, v3, v4⟩ := y.2.1
  have z : ∀ q, q ≠ 69 → (ia_up h.1 69 (.inr (2, [.ref 70, .int 0])), h.2).1 q = h.1 q := fun q hq => ia_up_ne hq
  have k : ks h (ia_up h.1 69 (.inr (2, [.ref 70, .int 0])), h.2) u v u v := by
    refine ks_fr (S := fun q => q = 69) ⟨Nat.le_refl _, fun q _ hq => ia_up_ne hq⟩ (fun q hq => ?_) (Or.inl rfl) (Or.inl rfl)
    right; right
    rw [hq]
    exact ⟨fun r w => (by rw [e69] at w; cases w), fun n f w => (by rw [e69] at w; cases w)⟩
  obtain ⟨⟨y0, yb, ysl, ynd, -, yjg, ycd, yar, yk⟩, -, yn⟩ := y
  refine ⟨⟨⟨(z 64 (by omega)).trans y0, yb.keep (z 65 (by omega)) (z u (by omega)) (Nat.le_refl _), ysl.keep k (z 67 (by omega)) (fun i hi => z _ (by omega)), ynd.keep (z 68 (by omega)), ⟨⟨0, Or.inl rfl, rfl⟩, b.keep (z 70 (by omega)) (z v (by omega)) (Nat.le_refl _)⟩, yjg.keep (fun q _ _ => z q (by omega)), ycd.keep (fun q _ _ => z q (by omega)), yar.keep (z 111 (by omega)) (z 112 (by omega)), yk.keep k⟩, ⟨v1, v2, v3, v4⟩, yn.keep k (fun q q1 q2 _ => z q (by omega)) (Nat.le_refl _)⟩, Nat.le_refl _, fun q _ hS => z q (fun w => hS (by rw [w]; unfold cx_S rm_S; omega))⟩
/-- the end of refine where it is done -/
theorem cl_rfok {G : ia_G} {h h1 : ia_H} {d n w u c1 v1 c21 s a0 a1 bc bs : Nat} {na sa : Nat → Nat} {A : aS} {x v : Int32} {z6 k1 k2 cc1 cc2 pt : Value} {vv : Int32} {Y1 Y2 b0 b1 b2 b3 : Nat} (hd : 1 ≤ d) (y : CY A h1 u c1 v1 c21 na sa) (hA : AI A) (n1 : 1 ≤ n) (n2 : n ≤ 16) (n3 : zE (aN A n) = true) (w1 : 1 ≤ w) (w8 : w ≤ 8) (l : zL (aN A n) = 0) (ok : rfo (aN A) (aR A) (kA A n w) (cA A n w v)) (hf : sx_fr h h1 cx_S)
    (en : h1.1 (na n) = some (.inr (5, [rn na (zP (aN A n)), .int (zF (aN A n)), .ref a0, .ref a1, .int (nI n), .null]))) (t0 : tt h1 u v1 a0 (zT (aN A n) 0)) (t1 : tt h1 u v1 a1 (zT (aN A n) 1))
    (es : h1.1 s = some (.inr (7, [.int (nI w), k1, k2, cc1, cc2, .int 0, .int vv, pt]))) (s142 : 142 ≤ s) (slt : s < h1.2) (sfree : ∀ m, 1 ≤ m → m ≤ 16 → zE (aN A m) = true → zL (aN A m) ≠ 0 → sa m ≠ s)
    (cd1 : cnd h1 u v1 (1 ≤ ncw w) cc1 ((cA A n w v).getD 0 [])) (cd2 : cnd h1 u v1 (2 ≤ ncw w) cc2 ((cA A n w v).getD 1 [])) (hv : w = 2 → vv = nI v.toNatClampNeg) (hp : w = 2 ∨ w = 4 ∨ w = 5 → ∃ a, pt = .ref a ∧ tt h1 u v1 a (gA A w))
    (hk1 : 3 ≤ w → k1 = .ref Y1) (hk1' : ¬ 3 ≤ w → k1 = .null) (hk2 : w = 3 ∨ w = 4 → k2 = .ref Y2) (hk2' : ¬ (w = 3 ∨ w = 4) → k2 = .null)
    (hY1 : 3 ≤ w → (142 ≤ Y1 ∧ Y1 < h1.2) ∧ (tt h1 u v1 b0 ((kA A n w).getD 0 []) ∧ tt h1 u v1 b1 ((kA A n w).getD 1 []) ∧ h1.1 Y1 = some (.inr (5, [.ref (na n), .int (if w = 8 then v else zF (aN A n)), .ref b0, .ref b1, .int 0, .null]))) ∧ ∀ m, 1 ≤ m → m ≤ 16 → zE (aN A m) = true → na m ≠ Y1)
    (hY2 : w = 3 ∨ w = 4 → (142 ≤ Y2 ∧ Y2 < h1.2) ∧ (tt h1 u v1 b2 ((kA A n w).getD 2 []) ∧ tt h1 u v1 b3 ((kA A n w).getD 3 []) ∧ h1.1 Y2 = some (.inr (5, [.ref (na n), .int (if w = 8 then v else zF (aN A n)), .ref b2, .ref b3, .int 0, .null]))) ∧ (∀ m, 1 ≤ m → m ≤ 16 → zE (aN A m) = true → na m ≠ Y2) ∧ Y1 ≠ Y2) :
    ia_Sx pg G kk_R_refine d bc bs 98 [.ref 64, .int x, .int (nI w), .int v, .ref (na n), .ref s, z6] [] h1 (cx_P h 0 ((aB A, aQ A, rfN (aN A) n w v (kA A n w) (cA A n w v) (gA A w), aR A + 1, A.2.2.2.2), nI (k1N (aN A) w))) := by
  have y0 := y.1.1
  unfold cx_0 at y0
  obtain ⟨f, e68, hf68⟩ := y.1.2.2.2.1
  have nn := y.2.2.1 n n1 n2 n3
  obtain ⟨-, -, -, -, -, -, nb, -⟩ := nn
  have ne1 : na n ≠ s := fun z => by rw [z, es] at en; cases en
  have kn' : (kA A n w).length = 2 * nkw w := rf_k_n w8
  have hr : 2 * nkw w + 2 * ctN (aN A) 16 ≤ 32 := by rw [← kn']; exact ok.1.1
  have frm : ∀ h5 : ia_H, h5.2 = h1.2 → (∀ q, q ≠ 64 → q ≠ 68 → q ≠ na n → (3 ≤ w → q ≠ Y1) → (w = 3 ∨ w = 4 → q ≠ Y2) → h5.1 q = h1.1 q) → sx_fr h h5 cx_S := fun h5 e2 hk => hf.tr ⟨by omega, fun q _ hS => hk q (fun z => hS (by rw [z]; unfold cx_S rm_S; omega)) (fun z => hS (by rw [z]; unfold cx_S rm_S; omega)) (fun z => hS (by rw [z]; unfold cx_S rm_S; omega)) (fun z1 z => hS (by rw [z]; have := (hY1 z1).1; unfold cx_S rm_S; omega)) (fun z1 z => hS (by rw [z]; have := (hY2 z1).1; unfold cx_S rm_S; omega))⟩
  by_cases c3 : 3 ≤ w
  · obtain rfl := hk1 c3
    obtain ⟨Y1b, ⟨tb0, tb1, eY1⟩, nY1⟩ := hY1 c3
    have l1 := lfN_in (N := aN A) (by have : 1 ≤ nkw w := by { unfold nkw; split; omega; rw [if_pos (by omega)]; omega }; omega)
    have ek1 : k1N (aN A) w = lfN (aN A) 16 1 := if_pos c3
    have yn1 : Y1 ≠ na n := fun z => nY1 n n1 n2 n3 z.symm
    have ys1 : Y1 ≠ s := fun z => by rw [z, es] at eY1; cases eY1
    by_cases c34 : w = 3 ∨ w = 4
    · obtain rfl := hk2 c34
      obtain ⟨Y2b, ⟨tb2, tb3, eY2⟩, nY2, yne⟩ := hY2 c34
      have yn2 : Y2 ≠ na n := fun z => nY2 n n1 n2 n3 z.symm
      have ys2 : Y2 ≠ s := fun z => by rw [z, es] at eY2; cases eY2
      have ek2 : k2N (aN A) w = lfN (upN (aN A) (lfN (aN A) 16 1) (nwN 0 0 0 [] [])) 16 1 := if_pos c34
      have i2 := k2N_in (N := aN A) c34 hr
      have l2 := lfN_in (N := upN (aN A) (lfN (aN A) 16 1) (nwN 0 0 0 [] [])) (by rw [ctN_up (x := nwN 0 0 0 [] []) rfl l1.2.1 l1.1.1 16 l1.1.2]; have : nkw w = 2 := if_pos c34; omega)
      rw [← ek2] at l2
      rw [← ek1] at l1 l2
      refine ia_go 2 rfl ?_
      refine ia_getf rfl y0 rfl ?_
      refine ia_go 2 rfl ?_
      rw [nI_1]
      refine ia_putf rfl y0 (by omega) rfl rfl rfl rfl ?_
      refine ia_go 2 rfl ?_
      have z2 : ∀ q, q ≠ 64 → ia_up h1.1 64 (.inr (0, [.ref 65, .ref 67, .ref 68, .ref 69, .ref 72, .ref 76, .ref 111, .ref 112, .int (aW A 3), .int (nI (aR A + 1))])) q = h1.1 q := fun q hq => ia_up_ne hq
      refine ia_putf rfl ((z2 (na n) (by omega)).trans en) (by omega) rfl rfl rfl rfl ?_
      refine ia_go 2 rfl ?_
      refine ia_gen (h := _) (Q := fun h3 => h3.2 = h1.2 ∧ h3.1 64 = some (.inr (0, [.ref 65, .ref 67, .ref 68, .ref 69, .ref 72, .ref 76, .ref 111, .ref 112, .int (aW A 3), .int (nI (aR A + 1))])) ∧ h3.1 (na n) = some (.inr (5, [rn na (zP (aN A n)), .int (zF (aN A n)), .ref a0, .ref a1, .int (nI n), .ref s])) ∧ ∀ q, q ≠ 64 → q ≠ na n → h3.1 q = h1.1 q) ⟨rfl, (ia_up_ne (by omega)).trans rfl, ia_up_same, fun q q1 q2 => (ia_up_ne q2).trans (ia_up_ne q1)⟩ (fun h3 hh3 => ?_)
      obtain ⟨s3, e643, en3, k3⟩ := hh3
      refine ia_getf rfl ((k3 s (by omega) (Ne.symm ne1)).trans es) rfl ?_
      refine jd_cV 64 [.ref Y1] [] 0 0 (d' := d - 1) rfl rfl rfl e643 rfl rfl (by omega) (by omega) (by omega) (cl_enter (l := k1N (aN A) w) e643 ((k3 68 (by omega) (by omega)).trans e68) ((k3 Y1 (by omega) yn1).trans eY1) (by omega) l1.1.1 l1.1.2 (by rw [hf68 _ l1.1.1 l1.1.2, if_neg l1.2.1]) (fun j j1 j2 => ⟨_, by rw [hf68 j j1 (by omega), if_pos (l1.2.2 j j1 j2)]⟩)) ?_
      rintro rv h4 ⟨rfl, s4, e684, eY14, k4⟩
      refine ia_go 1 rfl ?_
      dsimp only [ia_s1, ia_s2, ia_cl, ia_D, List.getElem?_cons_zero, List.getElem?_cons_succ, List.set_cons_zero, List.set_cons_succ]
      refine ia_go 2 rfl ?_
      refine ia_getf rfl ((k4 s (by omega) (Ne.symm ys1)).trans ((k3 s (by omega) (Ne.symm ne1)).trans es)) rfl ?_
      have e644 : h4.1 64 = _ := (k4 64 (by omega) (by omega)).trans e643
      have hff : ∀ j, 1 ≤ j → j < k2N (aN A) w → ∃ r, updV f (k1N (aN A) w) (.ref Y1) j = .ref r := by
        intro j j1 j2
        show ∃ r, (if j = k1N (aN A) w then Value.ref Y1 else f j) = .ref r
        by_cases z : j = k1N (aN A) w
        · exact ⟨_, if_pos z⟩
        · have q := l2.2.2 j j1 j2
          rw [upN_ne z] at q
          exact ⟨_, (if_neg z).trans (by rw [hf68 j j1 (by omega), if_pos q])⟩
      have eY24 : h4.1 Y2 = _ := (k4 Y2 (by omega) (Ne.symm yne)).trans ((k3 Y2 (by omega) yn2).trans eY2)
      refine jd_cV 64 [.ref Y2] [] 0 0 (d' := d - 1) rfl rfl rfl e644 rfl rfl (by omega) (by omega) (by omega) (cl_enter (l := k2N (aN A) w) e644 e684 eY24 (by omega) l2.1.1 l2.1.2 (by show (if k2N (aN A) w = k1N (aN A) w then Value.ref Y1 else f (k2N (aN A) w)) = .null; rw [if_neg (fun z => i2.2.2 z.symm), hf68 _ i2.1.1 i2.1.2, if_neg i2.2.1]) hff) ?_
      rintro rv h5 ⟨rfl, s5, e685, eY25, k5⟩
      refine ia_go 2 rfl ?_
      refine jd_rv1 rfl rfl rfl trivial ⟨rfl, ?_, ?_, Nat.le_refl _⟩
      · refine CY.refined y hA n1 n2 n3 w8 w1 l ok en t0 t1 es s142 slt sfree (Y1 := Y1) (Y2 := Y2) (fun _ => rfl) (fun z => absurd c3 z) (fun _ => rfl) (fun z => absurd c34 z) cd1 cd2 hv hp (fun _ => ⟨Y1b, ⟨b0, b1, tb0, tb1, ?_⟩, ⟨_, eY1⟩, nY1⟩) (fun _ => ⟨Y2b, ⟨b2, b3, tb2, tb3, eY25⟩, ⟨_, eY2⟩, nY2⟩) (by omega) ((k5 64 (by omega) (by omega)).trans e644) e685 (fun m m1 m2 => ?_) ?_ (fun q q1 q2 q3 q4 q5 => ?_)
        · exact (k5 Y1 (by omega) yne).trans eY14
        · show (if m = k2N (aN A) w then Value.ref Y2 else if m = k1N (aN A) w then Value.ref Y1 else f m) = _
          by_cases z1 : m = k1N (aN A) w
          · rw [if_neg (fun z => i2.2.2 (z1.symm.trans z)), if_pos z1, if_pos ⟨c3, z1⟩]
          · by_cases z2 : m = k2N (aN A) w
            · rw [if_pos z2, if_neg (fun z => z1 z.2), if_pos ⟨c34, z2⟩]
            · rw [if_neg z2, if_neg z1, if_neg (fun z => z1 z.2), if_neg (fun z => z2 z.2), hf68 m m1 m2]
        · exact (k5 _ (by omega) (Ne.symm yn2)).trans ((k4 _ (by omega) (Ne.symm yn1)).trans en3)
        · exact (k5 q q2 (q5 c34)).trans ((k4 q q2 (q4 c3)).trans (k3 q q1 q3))
      · exact frm h5 (by omega) (fun q q1 q2 q3 q4 q5 => (k5 q q2 (q5 c34)).trans ((k4 q q2 (q4 c3)).trans (k3 q q1 q3)))
    · obtain rfl := hk2' c34
      rw [← ek1] at l1
      refine ia_go 2 rfl ?_
      refine ia_getf rfl y0 rfl ?_
      refine ia_go 2 rfl ?_
      rw [nI_1]
      refine ia_putf rfl y0 (by omega) rfl rfl rfl rfl ?_
      refine ia_go 2 rfl ?_
      have z2 : ∀ q, q ≠ 64 → ia_up h1.1 64 (.inr (0, [.ref 65, .ref 67, .ref 68, .ref 69, .ref 72, .ref 76, .ref 111, .ref 112, .int (aW A 3), .int (nI (aR A + 1))])) q = h1.1 q := fun q hq => ia_up_ne hq
      refine ia_putf rfl ((z2 (na n) (by omega)).trans en) (by omega) rfl rfl rfl rfl ?_
      refine ia_go 2 rfl ?_
      refine ia_gen (h := _) (Q := fun h3 => h3.2 = h1.2 ∧ h3.1 64 = some (.inr (0, [.ref 65, .ref 67, .ref 68, .ref 69, .ref 72, .ref 76, .ref 111, .ref 112, .int (aW A 3), .int (nI (aR A + 1))])) ∧ h3.1 (na n) = some (.inr (5, [rn na (zP (aN A n)), .int (zF (aN A n)), .ref a0, .ref a1, .int (nI n), .ref s])) ∧ ∀ q, q ≠ 64 → q ≠ na n → h3.1 q = h1.1 q) ⟨rfl, (ia_up_ne (by omega)).trans rfl, ia_up_same, fun q q1 q2 => (ia_up_ne q2).trans (ia_up_ne q1)⟩ (fun h3 hh3 => ?_)
      obtain ⟨s3, e643, en3, k3⟩ := hh3
      refine ia_getf rfl ((k3 s (by omega) (Ne.symm ne1)).trans es) rfl ?_
      refine jd_cV 64 [.ref Y1] [] 0 0 (d' := d - 1) rfl rfl rfl e643 rfl rfl (by omega) (by omega) (by omega) (cl_enter (l := k1N (aN A) w) e643 ((k3 68 (by omega) (by omega)).trans e68) ((k3 Y1 (by omega) yn1).trans eY1) (by omega) l1.1.1 l1.1.2 (by rw [hf68 _ l1.1.1 l1.1.2, if_neg l1.2.1]) (fun j j1 j2 => ⟨_, by rw [hf68 j j1 (by omega), if_pos (l1.2.2 j j1 j2)]⟩)) ?_
      rintro rv h4 ⟨rfl, s4, e684, eY14, k4⟩
      refine ia_go 1 rfl ?_
      dsimp only [ia_s1, ia_s2, ia_cl, ia_D, List.getElem?_cons_zero, List.getElem?_cons_succ, List.set_cons_zero, List.set_cons_succ]
      refine ia_go 2 rfl ?_
      refine ia_getf rfl ((k4 s (by omega) (Ne.symm ys1)).trans ((k3 s (by omega) (Ne.symm ne1)).trans es)) rfl ?_
      have e644 : h4.1 64 = _ := (k4 64 (by omega) (by omega)).trans e643
      refine jd_cV 64 [.null] [] 0 0 (d' := d - 1) rfl rfl rfl e644 rfl rfl (by omega) (by omega) (by omega) (cl_enter0) ?_
      rintro rv h5 ⟨rfl, hh⟩
      refine ia_go 2 rfl ?_
      subst hh
      refine jd_rv1 rfl rfl rfl trivial ⟨rfl, ?_, ?_, Nat.le_refl _⟩
      · refine CY.refined y hA n1 n2 n3 w8 w1 l ok en t0 t1 es s142 slt sfree (Y1 := Y1) (Y2 := 0) (fun _ => rfl) (fun z => absurd c3 z) (fun z => absurd z c34) (fun _ => rfl) cd1 cd2 hv hp (fun _ => ⟨Y1b, ⟨b0, b1, tb0, tb1, eY14⟩, ⟨_, eY1⟩, nY1⟩) (fun z => absurd z c34) (by omega) e644 e684 (fun m m1 m2 => ?_) ?_ (fun q q1 q2 q3 q4 q5 => ?_)
        · show (if m = k1N (aN A) w then Value.ref Y1 else f m) = _
          by_cases z1 : m = k1N (aN A) w
          · rw [if_pos z1, if_pos ⟨c3, z1⟩]
          · rw [if_neg z1, if_neg (fun z => z1 z.2), if_neg (fun z => c34 z.1), hf68 m m1 m2]
        · exact (k4 _ (by omega) (Ne.symm yn1)).trans en3
        · exact (k4 q q2 (q4 c3)).trans (k3 q q1 q3)
      · exact frm _ (by omega) (fun q q1 q2 q3 q4 q5 => (k4 q q2 (q4 c3)).trans (k3 q q1 q3))
  · obtain rfl := hk1' c3
    obtain rfl := hk2' (by omega)
    refine ia_go 2 rfl ?_
    refine ia_getf rfl y0 rfl ?_
    refine ia_go 2 rfl ?_
    rw [nI_1]
    refine ia_putf rfl y0 (by omega) rfl rfl rfl rfl ?_
    refine ia_go 2 rfl ?_
    have z2 : ∀ q, q ≠ 64 → ia_up h1.1 64 (.inr (0, [.ref 65, .ref 67, .ref 68, .ref 69, .ref 72, .ref 76, .ref 111, .ref 112, .int (aW A 3), .int (nI (aR A + 1))])) q = h1.1 q := fun q hq => ia_up_ne hq
    refine ia_putf rfl ((z2 (na n) (by omega)).trans en) (by omega) rfl rfl rfl rfl ?_
    refine ia_go 2 rfl ?_
    refine ia_gen (h := _) (Q := fun h3 => h3.2 = h1.2 ∧ h3.1 64 = some (.inr (0, [.ref 65, .ref 67, .ref 68, .ref 69, .ref 72, .ref 76, .ref 111, .ref 112, .int (aW A 3), .int (nI (aR A + 1))])) ∧ h3.1 (na n) = some (.inr (5, [rn na (zP (aN A n)), .int (zF (aN A n)), .ref a0, .ref a1, .int (nI n), .ref s])) ∧ ∀ q, q ≠ 64 → q ≠ na n → h3.1 q = h1.1 q) ⟨rfl, (ia_up_ne (by omega)).trans rfl, ia_up_same, fun q q1 q2 => (ia_up_ne q2).trans (ia_up_ne q1)⟩ (fun h3 hh3 => ?_)
    obtain ⟨s3, e643, en3, k3⟩ := hh3
    refine ia_getf rfl ((k3 s (by omega) (Ne.symm ne1)).trans es) rfl ?_
    refine jd_cV 64 [.null] [] 0 0 (d' := d - 1) rfl rfl rfl e643 rfl rfl (by omega) (by omega) (by omega) (cl_enter0) ?_
    rintro rv h4 ⟨rfl, hh⟩
    subst hh
    refine ia_go 1 rfl ?_
    dsimp only [ia_s1, ia_s2, ia_cl, ia_D, List.getElem?_cons_zero, List.getElem?_cons_succ, List.set_cons_zero, List.set_cons_succ]
    refine ia_go 2 rfl ?_
    refine ia_getf rfl ((k3 s (by omega) (Ne.symm ne1)).trans es) rfl ?_
    refine jd_cV 64 [.null] [] 0 0 (d' := d - 1) rfl rfl rfl e643 rfl rfl (by omega) (by omega) (by omega) (cl_enter0) ?_
    rintro rv h5 ⟨rfl, hh⟩
    refine ia_go 2 rfl ?_
    subst hh
    refine jd_rv1 rfl rfl rfl trivial ⟨by rw [show k1N (aN A) w = 0 from if_neg c3]; rfl, ?_, ?_, Nat.le_refl _⟩
    · refine CY.refined y hA n1 n2 n3 w8 w1 l ok en t0 t1 es s142 slt sfree (Y1 := 0) (Y2 := 0) (fun z => absurd z c3) (fun _ => rfl) (fun z => by omega) (fun _ => rfl) cd1 cd2 hv hp (fun z => absurd z c3) (fun z => by omega) (by omega) e643 ((k3 68 (by omega) (by omega)).trans e68) (fun m m1 m2 => ?_) en3 (fun q q1 q2 q3 q4 q5 => k3 q q1 q3)
      rw [if_neg (fun z => c3 z.1), if_neg (fun z => by have := z.1; omega), hf68 m m1 m2]
    · exact frm _ (by omega) (fun q q1 q2 q3 q4 q5 => k3 q q1 q3)
theorem cl_rfgo {G : ia_G} {h : ia_H} {d n w u c1 v0 c2 : Nat} {na sa : Nat → Nat} {A : aS} {x v : Int32} (hd : 10 ≤ d) (y : CY A h u c1 v0 c2 na sa) (hA : AI A) (n1 : 1 ≤ n) (n2 : n ≤ 16) (n3 : zE (aN A n) = true) (w1 : 1 ≤ w) (w8 : w ≤ 8) (l : zL (aN A n) = 0) (hs : sdN (aN A) (aQ A 0) (aQ A 1) (aQ A 3) n w v) : ia_Sx pg G kk_R_refine d 29 11070 47 [.ref 64, .int x, .int (nI w), .int v, .ref (na n), .retAddr 0, .retAddr 0] [] h (cx_P h 0 (sp_refat A n w v)) := by
  have esp : sp_refat A n w v = ch (rfo (aN A) (aR A) (kA A n w) (cA A n w v)) ((aB A, aQ A, rfN (aN A) n w v (kA A n w) (cA A n w v) (gA A w), aR A + 1, A.2.2.2.2), nI (k1N (aN A) w)) (A, -3) := by
    unfold sp_refat
    rw [ch_neg (fun z => z.elim (fun q => q l) (fun q => q hs))]
  rw [esp]
  have y0 := y.1.1
  obtain ⟨⟨t69, -, e69⟩, b70⟩ := y.1.2.2.2.2.1
  have y1 := y.dr0
  have lu := y1.1.1.2.1.lt
  have lv := y1.1.1.2.2.2.2.1.2.lt
  obtain ⟨w1', w2', w3', w4'⟩ := y1.1.2.1
  obtain ⟨a0, a1, st, en, t0, t1, nb, st0, -⟩ := y1.1.2.2.1 n n1 n2 n3
  obtain rfl := st0 l
  have ysl := y1.1.1.2.2.1
  obtain ⟨s0, e113, ts0⟩ := ysl.2 0 (by omega)
  obtain ⟨s1, e114, ts1⟩ := ysl.2 1 (by omega)
  obtain ⟨s3, e116, ts3⟩ := ysl.2 3 (by omega)
  have h5 := hA.2.2.2.2
  obtain ⟨-, -, -, -, -, tl6, -⟩ := h5 n n1 n2 n3
  have lp := (tl6 0 (by omega)).2
  have lq := (tl6 1 (by omega)).2
  have lQ : ∀ i, i < 4 → (aQ A i).length ≤ 120 := fun i hi => by have := hA.2.2.2.1.2.1 i hi; omega
  have hX0 : sb (ia_up h.1 69 (.inr (2, [.ref 70, .int 0])), h.2) u v0 [] (cst ++ [(a0, zT (aN A n) 0), (a1, zT (aN A n) 1), (s0, aQ A 0), (s1, aQ A 1), (s3, aQ A 3)]) True [] (ia_up h.1 69 (.inr (2, [.ref 70, .int 0])), h.2) := by
    refine ⟨v0, c2, 0, ⟨rfl, [], y1.1.1.2.2.2.2.1.2, Or.inl rfl, Nat.zero_le _⟩, Or.inl ⟨rfl, trivial⟩, sx_fr.rf, Or.inl rfl, fun a t z => z, fun q hq => (by cases hq), fun q hq => ?_, y1.1.2.1, lu.2.1⟩
    rcases List.mem_append.mp hq with hq | hq
    · exact y1.1.1.2.2.2.2.2.2.2.2 q hq
    · simp only [List.mem_cons, List.not_mem_nil, or_false] at hq
      rcases hq with rfl | rfl | rfl | rfl | rfl
      · exact t0
      · exact t1
      · exact ts0
      · exact ts1
      · exact ts3
  have hB : hb (ia_up h.1 69 (.inr (2, [.ref 70, .int 0])), h.2) v0 (na n) (zF (aN A n)) a0 a1 s0 s1 s3 := by
    refine ⟨⟨_, y1.1.1.1⟩, ysl.1, ⟨e113, e114, e116⟩, ⟨_, _, _, en⟩, ⟨nb.1, nb.2, fun z => ?_⟩, w2', w4'⟩
    obtain ⟨m, f, e⟩ := lv.2.2.1
    rw [← z, en] at e
    cases e
  have hMM : hm (cst ++ [(a0, zT (aN A n) 0), (a1, zT (aN A n) 1), (s0, aQ A 0), (s1, aQ A 1), (s3, aQ A 3)]) a0 a1 s0 s1 s3 (zT (aN A n) 0) (zT (aN A n) 1) (aQ A 0) (aQ A 1) (aQ A 3) := ⟨fun z hz => List.mem_append.mpr (Or.inl hz), List.mem_append.mpr (Or.inr (by simp)), List.mem_append.mpr (Or.inr (by simp)), List.mem_append.mpr (Or.inr (by simp)), List.mem_append.mpr (Or.inr (by simp)), List.mem_append.mpr (Or.inr (by simp))⟩
  have v2 : w = 2 → ∃ k, k ≤ 2 ∧ v = nI k := fun z => by
    obtain ⟨⟨v0, v2, -⟩, -⟩ := hs.1 z
    exact nI_of2 (n := 2) (M := 2) rfl (Int32.not_lt.mpr v0) v2
  have hy : w = 2 → ((97 + v).toUInt32 % 65536).toInt32 = 97 + v := fun z => by
    obtain ⟨k, hk, rfl⟩ := v2 z
    exact i2c_97 ⟨k, by omega⟩
  refine ia_go 1 rfl ?_
  refine ia_getf rfl y0 rfl ?_
  refine jd_cV 69 [] [] 0 0 (d' := d - 1) rfl rfl rfl e69 rfl rfl (by omega) (by omega) (by omega) (sb.start e69) ?_
  rintro rv h1 ⟨rfl, hh⟩
  refine ia_go 4 rfl ?_
  subst hh
  refine jd_cV 64 [.ref (na n), .int (nI w), .int v] [] 29 11070 (d' := d - 1) rfl rfl rfl y1.1.1.1 rfl rfl (by omega) (by omega) (by omega) (st_all (by omega) hB hMM lp lq (lQ 0 (by omega)) (lQ 1 (by omega)) (lQ 3 (by omega)) w1 w8 hy hX0) ?_
  rintro rv h1 ⟨rfl, L, M, k1, k2, cc1, cc2, vv, pt, ⟨v', c2', tl, xx⟩, mS, K1, K2, Kne, C1, C2, Vv, Pt⟩
  refine ia_go 1 rfl ?_
  dsimp only [ia_s1, ia_s2, ia_cl, ia_D, List.getElem?_cons_zero, List.getElem?_cons_succ, List.set_cons_zero, List.set_cons_succ]
  have yC := y1.1.sb xx
  have hf := y1.2.tr yC.2
  have no : (¬ rfo (aN A) (aR A) (kA A n w) (cA A n w v)) → cx_P h 0 (ch (rfo (aN A) (aR A) (kA A n w) (cA A n w v)) ((aB A, aQ A, rfN (aN A) n w v (kA A n w) (cA A n w v) (gA A w), aR A + 1, A.2.2.2.2), nI (k1N (aN A) w)) (A, -3)) (some (.int (-3))) h1 := fun z => by
    rw [ch_neg z]
    exact ⟨rfl, ⟨_, _, _, _, _, _, yC.1⟩, hf, Nat.le_refl _⟩
  have e64 := yC.1.1.1
  have e69' := xx.1.1
  rcases xx.2.1 with ⟨rfl, hP⟩ | ⟨rfl, hP⟩
  rotate_left
  ·
    refine ia_go 1 rfl ?_
    refine ia_getf rfl e64 rfl ?_
    refine ia_getf rfl e69' rfl ?_
    refine ia_go 1 rfl ?_
    rw [if_pos (by exact (by decide))]
    refine ia_go 1 rfl ?_
    exact jd_rv1 rfl rfl rfl trivial (no (fun z => hP z.2))
  by_cases r48 : aR A < 48
  rotate_left
  ·
    refine ia_go 1 rfl ?_
    refine ia_getf rfl e64 rfl ?_
    refine ia_getf rfl e69' rfl ?_
    refine ia_go 1 rfl ?_
    rw [if_neg (by exact (by decide))]
    refine ia_go 1 rfl ?_
    refine ia_getf rfl e64 rfl ?_
    refine ia_go 2 rfl ?_
    rw [if_pos (by exact (nI_le (a := 48) (by omega) (by have := hA.2.2.2.1.2.2.1; omega)))]
    refine ia_go 1 rfl ?_
    exact jd_rv1 rfl rfl rfl trivial (no (fun z => r48 z.1.2))
  have es := (xx.2.2.2.2.2.1 _ mS)
  have kn' : (kA A n w).length = 2 * nkw w := rf_k_n w8
  have cn' : (cA A n w v).length = ncw w := rf_c_n
  have ck : (nkw w = 0 ∧ k1 = .null ∧ k2 = .null) ∨ (nkw w = 1 ∧ (∃ a, k1 = .ref a) ∧ k2 = .null) ∨ (nkw w = 2 ∧ (∃ a, k1 = .ref a) ∧ ∃ b, k2 = .ref b) := by
    by_cases c3 : 3 ≤ w
    · obtain ⟨Y1, _, _, e1, -⟩ := K1.1 c3
      by_cases c34 : w = 3 ∨ w = 4
      · obtain ⟨Y2, _, _, e2, -⟩ := K2.1 c34
        exact Or.inr (Or.inr ⟨if_pos c34, ⟨_, e1⟩, _, e2⟩)
      · exact Or.inr (Or.inl ⟨(if_neg c34).trans (if_pos (by omega)), ⟨_, e1⟩, K2.2 c34⟩)
    · exact Or.inl ⟨(if_neg (by omega)).trans (if_neg (by omega)), K1.2 c3, K2.2 (by omega)⟩
  have cle : ctN (aN A) 16 ≤ 16 := by
    have : ∀ i, ctN (aN A) i ≤ i := by
      intro i
      induction i with
      | zero => exact Nat.le_refl _
      | succ i ih => show ctN (aN A) i + (if zE (aN A (i + 1)) = true then 1 else 0) ≤ i + 1; split <;> omega
    exact this 16
  have nk2 : nkw w ≤ 2 := by unfold nkw; split; omega; split <;> omega
  by_cases hroom : nkw w ≤ 16 - ctN (aN A) 16
  rotate_left
  ·
    refine ia_go 1 rfl ?_
    refine ia_getf rfl e64 rfl ?_
    refine ia_getf rfl e69' rfl ?_
    refine ia_go 1 rfl ?_
    rw [if_neg (by exact (by decide))]
    refine ia_go 1 rfl ?_
    refine ia_getf rfl e64 rfl ?_
    refine ia_go 2 rfl ?_
    rw [if_neg (by exact (nI_ge (b := 48) r48 (by omega)))]
    refine ia_go 1 rfl ?_
    refine jd_cV 64 [] [] 0 0 (d' := d - 1) rfl rfl rfl e64 rfl rfl (by omega) (by omega) (by omega) (cl_free e64 yC.1.1.2.2.2.1) ?_
    rintro rv h2 ⟨rfl, hh⟩
    refine ia_go 1 rfl ?_
    subst hh
    refine jd_cV h.2 [] [.int (nI (16 - ctN (aN A) 16))] 0 0 (d' := d - 1) rfl rfl rfl es.1 rfl rfl (by omega) (by omega) (by omega) (cl_ck es.1 ck) ?_
    rintro rv h2 ⟨rfl, hh⟩
    refine ia_go 1 rfl ?_
    subst hh
    rw [if_neg (by exact (nI_ge (by omega) (by omega)))]
    refine ia_go 1 rfl ?_
    exact jd_rv1 rfl rfl rfl trivial (no (fun z => hroom (by have := z.1.1; omega)))
  have ok : rfo (aN A) (aR A) (kA A n w) (cA A n w v) := ⟨⟨by omega, r48⟩, hP⟩
  refine ia_go 1 rfl ?_
  refine ia_getf rfl e64 rfl ?_
  refine ia_getf rfl e69' rfl ?_
  refine ia_go 1 rfl ?_
  rw [if_neg (by exact (by decide))]
  refine ia_go 1 rfl ?_
  refine ia_getf rfl e64 rfl ?_
  refine ia_go 2 rfl ?_
  rw [if_neg (by exact (nI_ge (b := 48) r48 (by omega)))]
  refine ia_go 1 rfl ?_
  refine jd_cV 64 [] [] 0 0 (d' := d - 1) rfl rfl rfl e64 rfl rfl (by omega) (by omega) (by omega) (cl_free e64 yC.1.1.2.2.2.1) ?_
  rintro rv h2 ⟨rfl, hh⟩
  refine ia_go 1 rfl ?_
  subst hh
  refine jd_cV h.2 [] [.int (nI (16 - ctN (aN A) 16))] 0 0 (d' := d - 1) rfl rfl rfl es.1 rfl rfl (by omega) (by omega) (by omega) (cl_ck es.1 ck) ?_
  rintro rv h2 ⟨rfl, hh⟩
  refine ia_go 1 rfl ?_
  subst hh
  rw [if_pos (by exact (nI_le hroom (by omega)))]
  rw [ch_pos ok]
  obtain ⟨a0', a1', st', en', t0', t1', -, st0', -⟩ := yC.1.2.2.1 n n1 n2 n3
  obtain rfl := st0' l
  have tM : ∀ {a t}, (a, tk t) ∈ M → t.length ≤ 120 → tt _ u v' a t := fun {a t} hm hl => by
    have := xx.2.2.2.2.2.2.1 _ hm
    rw [show ((a, tk t) : Nat × List Int32).2 = t from tk_le hl] at this
    exact this
  have nlt : ∀ m, 1 ≤ m → m ≤ 16 → zE (aN A m) = true → na m < h.2 := fun m m1 m2 m3 => by
    obtain ⟨-, -, -, -, -, -, b, -⟩ := y1.1.2.2.1 m m1 m2 m3
    exact b.2
  obtain ⟨Y1, b0, b1, hY1⟩ : ∃ Y1 b0 b1 : Nat, 3 ≤ w → k1 = .ref Y1 ∧ (142 ≤ Y1 ∧ Y1 < h2.2) ∧ (tt h2 u v' b0 ((kA A n w).getD 0 []) ∧ tt h2 u v' b1 ((kA A n w).getD 1 []) ∧ h2.1 Y1 = some (.inr (5, [.ref (na n), .int (if w = 8 then v else zF (aN A n)), .ref b0, .ref b1, .int 0, .null]))) ∧ ∀ m, 1 ≤ m → m ≤ 16 → zE (aN A m) = true → na m ≠ Y1 := by
    by_cases c3 : 3 ≤ w
    · obtain ⟨Y1, b0, b1, e1, m1, m2, m3, m4⟩ := K1.1 c3
      have q := xx.2.2.2.2.2.1 _ m1
      have nk1 : 1 ≤ nkw w := by unfold nkw; split; omega; rw [if_pos (by omega)]; omega
      exact ⟨Y1, b0, b1, fun _ => ⟨e1, ⟨q.2.2.2, q.2.1⟩, ⟨tM m2 (hP.1 _ (getD_mem (by rw [show (rf_k w (zT (aN A n) 0) (zT (aN A n) 1) (aQ A 0) (aQ A 1) (aQ A 3)).length = 2 * nkw w from kn']; omega))), tM m3 (hP.1 _ (getD_mem (by rw [show (rf_k w (zT (aN A n) 0) (zT (aN A n) 1) (aQ A 0) (aQ A 1) (aQ A 3)).length = 2 * nkw w from kn']; omega))), q.1⟩, fun m j1 j2 j3 => by have := nlt m j1 j2 j3; have : h.2 < Y1 := m4; omega⟩⟩
    · exact ⟨0, 0, 0, fun z => absurd z c3⟩
  obtain ⟨Y2, b2, b3, hY2⟩ : ∃ Y2 b2 b3 : Nat, w = 3 ∨ w = 4 → k2 = .ref Y2 ∧ (142 ≤ Y2 ∧ Y2 < h2.2) ∧ (tt h2 u v' b2 ((kA A n w).getD 2 []) ∧ tt h2 u v' b3 ((kA A n w).getD 3 []) ∧ h2.1 Y2 = some (.inr (5, [.ref (na n), .int (if w = 8 then v else zF (aN A n)), .ref b2, .ref b3, .int 0, .null]))) ∧ (∀ m, 1 ≤ m → m ≤ 16 → zE (aN A m) = true → na m ≠ Y2) := by
    by_cases c3 : w = 3 ∨ w = 4
    · obtain ⟨Y1, b0, b1, e1, m1, m2, m3, m4⟩ := K2.1 c3
      have q := xx.2.2.2.2.2.1 _ m1
      have nk1 : nkw w = 2 := if_pos c3
      exact ⟨Y1, b0, b1, fun _ => ⟨e1, ⟨q.2.2.2, q.2.1⟩, ⟨tM m2 (hP.1 _ (getD_mem (by rw [show (rf_k w (zT (aN A n) 0) (zT (aN A n) 1) (aQ A 0) (aQ A 1) (aQ A 3)).length = 2 * nkw w from kn']; omega))), tM m3 (hP.1 _ (getD_mem (by rw [show (rf_k w (zT (aN A n) 0) (zT (aN A n) 1) (aQ A 0) (aQ A 1) (aQ A 3)).length = 2 * nkw w from kn']; omega))), q.1⟩, fun m j1 j2 j3 => by have := nlt m j1 j2 j3; have : h.2 < Y1 := m4; omega⟩⟩
    · exact ⟨0, 0, 0, fun z => absurd z c3⟩
  refine cl_rfok (Y1 := Y1) (Y2 := Y2) (b0 := b0) (b1 := b1) (b2 := b2) (b3 := b3) (by omega) yC.1 hA n1 n2 n3 w1 w8 l ok hf en' t0' t1' es.1 es.2.2.2 es.2.1 (fun m m1 m2 m3 m4 => ?_) ⟨fun z => ?_, C1.2⟩ ⟨fun z => ?_, C2.2⟩ (fun z => ?_) (fun z => ?_) (fun z => (hY1 z).1) K1.2 (fun z => (hY2 z).1) K2.2 (fun z => (hY1 z).2) (fun z => ⟨(hY2 z).2.1, (hY2 z).2.2.1, (hY2 z).2.2.2, fun q => ?_⟩)
  · obtain ⟨_, _, _, -, -, -, -, -, ys⟩ := y1.1.2.2.1 m m1 m2 m3
    obtain ⟨-, -, -, -, -, -, -, -, -, -, -, q⟩ := ys m4
    have q' : sa m < h.2 := q
    show sa m ≠ h.2
    omega
  · obtain ⟨a, e, m⟩ := C1.1 z
    exact ⟨a, e, tM m (hP.2 _ (getD_mem (by rw [show (rf_c w v (zT (aN A n) 0) (zT (aN A n) 1) (aQ A 0) (aQ A 1) (aQ A 3)).length = ncw w from cn']; omega)))⟩
  · obtain ⟨a, e, m⟩ := C2.1 z
    exact ⟨a, e, tM m (hP.2 _ (getD_mem (by rw [show (rf_c w v (zT (aN A n) 0) (zT (aN A n) 1) (aQ A 0) (aQ A 1) (aQ A 3)).length = ncw w from cn']; omega)))⟩
  · obtain ⟨k, hk, rfl⟩ := v2 z
    rw [Vv z, nI_clamp (by omega)]
  · obtain ⟨a, e, m⟩ := Pt z
    exact ⟨a, e, xx.2.2.2.2.2.2.1 _ m⟩
  · exact Kne Y1 (hY1 (by omega)).1 (by rw [(hY2 z).1, q])
theorem cx_refine {G : ia_G} {h : ia_H} {d : Nat} {A : aS} {x w v : Int32} (hd : 10 ≤ d) (y : CX A h) (hA : AI A) : ia_Cn pg G kk_R_refine d 29 11070 [.ref 64, .int x, .int w, .int v] h (cx_P h 0 (sp_refine A x w v)) := by
  have y' := y
  obtain ⟨u, c1, v0, c2, na, sa, yy⟩ := y
  have y0 := yy.1.1
  have ynd := yy.1.2.2.2.1
  have h5 := hA.2.2.2.2
  have cf := cl_find (G := G) (d := d - 1) (x := x) y0 ynd
  by_cases hn : nod (aN A) x = 0
  · rw [show sp_refine A x w v = (A, -1) by unfold sp_refine; rw [ch_neg (fun z => z.1 hn)]]
    rw [hn] at cf
    refine jd_met (ls := [.ref 64, .int x, .int w, .int v, .retAddr 0, .retAddr 0, .retAddr 0]) rfl rfl rfl ?_
    refine ia_go 2 rfl ?_
    refine jd_cV 64 [.int x] [] 0 0 (d' := d - 1) rfl rfl rfl y0 rfl rfl (by omega) (by omega) (by omega) (cf) ?_
    rintro rv h' ⟨rfl, hh⟩
    subst hh
    rw [show rn na 0 = .null from rfl]
    refine ia_go 1 rfl ?_
    dsimp only [ia_s1, ia_s2, ia_cl, ia_D, List.getElem?_cons_zero, List.getElem?_cons_succ, List.set_cons_zero, List.set_cons_succ]
    refine ia_go 2 rfl ?_
    refine ia_go 1 rfl ?_
    exact jd_rv1 rfl rfl rfl trivial (cx_same y')
  obtain ⟨⟨n1, n2⟩, -, n3⟩ := nod_in hn
  rw [show rn na (nod (aN A) x) = .ref (na (nod (aN A) x)) from if_neg hn] at cf
  by_cases h1 : w < 1
  · rw [show sp_refine A x w v = (A, -1) by unfold sp_refine; rw [ch_neg (by rintro ⟨-, W, w1, w8, rfl⟩; exact absurd h1 (nI_nlt (b := 1) w1 (by omega)))]]
    refine jd_met (ls := [.ref 64, .int x, .int w, .int v, .retAddr 0, .retAddr 0, .retAddr 0]) rfl rfl rfl ?_
    refine ia_go 2 rfl ?_
    refine jd_cV 64 [.int x] [] 0 0 (d' := d - 1) rfl rfl rfl y0 rfl rfl (by omega) (by omega) (by omega) (cf) ?_
    rintro rv h' ⟨rfl, hh⟩
    subst hh
    refine ia_go 1 rfl ?_
    dsimp only [ia_s1, ia_s2, ia_cl, ia_D, List.getElem?_cons_zero, List.getElem?_cons_succ, List.set_cons_zero, List.set_cons_succ]
    refine ia_go 2 rfl ?_
    refine ia_go 3 rfl ?_
    rw [if_pos (by exact h1)]
    refine ia_go 1 rfl ?_
    exact jd_rv1 rfl rfl rfl trivial (cx_same y')
  by_cases h2 : w ≤ 8
  rotate_left
  · rw [show sp_refine A x w v = (A, -1) by unfold sp_refine; rw [ch_neg (by rintro ⟨-, W, w1, w8, rfl⟩; exact h2 (nI_le (b := 8) w8 (by omega)))]]
    refine jd_met (ls := [.ref 64, .int x, .int w, .int v, .retAddr 0, .retAddr 0, .retAddr 0]) rfl rfl rfl ?_
    refine ia_go 2 rfl ?_
    refine jd_cV 64 [.int x] [] 0 0 (d' := d - 1) rfl rfl rfl y0 rfl rfl (by omega) (by omega) (by omega) (cf) ?_
    rintro rv h' ⟨rfl, hh⟩
    subst hh
    refine ia_go 1 rfl ?_
    dsimp only [ia_s1, ia_s2, ia_cl, ia_D, List.getElem?_cons_zero, List.getElem?_cons_succ, List.set_cons_zero, List.set_cons_succ]
    refine ia_go 2 rfl ?_
    refine ia_go 3 rfl ?_
    rw [if_neg (by exact h1)]
    refine ia_go 3 rfl ?_
    rw [if_neg (by exact h2)]
    refine ia_go 1 rfl ?_
    exact jd_rv1 rfl rfl rfl trivial (cx_same y')
  obtain ⟨W, W8, rfl⟩ := nI_of2 (M := 8) (n := 8) (by decide) (fun z => h1 (Int32.lt_trans z (by decide))) h2
  have W1 : 1 ≤ W := by
    rcases Nat.eq_zero_or_pos W with z | z
    · rw [z] at h1; exact absurd (by decide) h1
    · exact z
  have esp : sp_refine A x (nI W) v = sp_refat A (nod (aN A) x) W v := by
    unfold sp_refine
    rw [ch_pos ⟨hn, W, W1, W8, rfl⟩, nI_clamp (by omega)]
  rw [esp]
  generalize nod (aN A) x = n at n1 n2 n3 cf hn
  have yn' := yy.2.2.1 n n1 n2 n3
  obtain ⟨a0, a1, st, en, -, -, -, st0, st1⟩ := id yn'
  by_cases l : zL (aN A n) = 0
  rotate_left
  · obtain ⟨rfl, -⟩ := st1 l
    rw [show sp_refat A n W v = (A, -2) by unfold sp_refat; rw [ch_pos (Or.inl l)]]
    refine jd_met (ls := [.ref 64, .int x, .int (nI W), .int v, .retAddr 0, .retAddr 0, .retAddr 0]) rfl rfl rfl ?_
    refine ia_go 2 rfl ?_
    refine jd_cV 64 [.int x] [] 0 0 (d' := d - 1) rfl rfl rfl y0 rfl rfl (by omega) (by omega) (by omega) (cf) ?_
    rintro rv h' ⟨rfl, hh⟩
    subst hh
    refine ia_go 1 rfl ?_
    dsimp only [ia_s1, ia_s2, ia_cl, ia_D, List.getElem?_cons_zero, List.getElem?_cons_succ, List.set_cons_zero, List.set_cons_succ]
    refine ia_go 2 rfl ?_
    refine ia_go 3 rfl ?_
    rw [if_neg (by exact h1)]
    refine ia_go 3 rfl ?_
    rw [if_pos (by exact h2)]
    refine ia_go 1 rfl ?_
    refine ia_getf rfl en rfl ?_
    refine ia_go 1 rfl ?_
    refine ia_go 1 rfl ?_
    exact jd_rv1 rfl rfl rfl trivial (cx_same y')
  obtain rfl := st0 l
  refine jd_met (ls := [.ref 64, .int x, .int (nI W), .int v, .retAddr 0, .retAddr 0, .retAddr 0]) rfl rfl rfl ?_
  refine ia_go 2 rfl ?_
  refine jd_cV 64 [.int x] [] 0 0 (d' := d - 1) rfl rfl rfl y0 rfl rfl (by omega) (by omega) (by omega) (cf) ?_
  rintro rv h' ⟨rfl, hh⟩
  subst hh
  refine ia_go 1 rfl ?_
  dsimp only [ia_s1, ia_s2, ia_cl, ia_D, List.getElem?_cons_zero, List.getElem?_cons_succ, List.set_cons_zero, List.set_cons_succ]
  refine ia_go 2 rfl ?_
  refine ia_go 3 rfl ?_
  rw [if_neg (by exact h1)]
  refine ia_go 3 rfl ?_
  rw [if_pos (by exact h2)]
  refine ia_go 1 rfl ?_
  refine ia_getf rfl en rfl ?_
  refine ia_go 1 rfl ?_
  refine ia_go 4 rfl ?_
  refine jd_cV 64 [.ref (na n), .int (nI W), .int v] [] 0 0 (d' := d - 1) rfl rfl rfl y0 rfl rfl (by omega) (by omega) (by omega) (cl_allows (by omega) h5 y0 yy.1.2.2.1 yy.2.2 n1 n2 n3 W1 W8) ?_
  rintro rv h' ⟨hh, b, rfl, hb⟩
  refine ia_go 1 rfl ?_
  subst hh
  obtain ⟨rfl, hb⟩ | ⟨rfl, hb⟩ := hb
  · rw [if_pos (by decide)]
    exact cl_rfgo hd yy hA n1 n2 n3 W1 W8 l hb
  · rw [if_neg (fun z => z rfl)]
    rw [show sp_refat A n W v = (A, -2) by unfold sp_refat; rw [ch_pos (Or.inr hb)]]
    refine ia_go 1 rfl ?_
    exact jd_rv1 rfl rfl rfl trivial (cx_same y')
