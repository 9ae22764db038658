/-! THE CLASS, 9: the state behind a refinement. -/
theorem rn_eq {na na' : Nat → Nat} {k : Nat} (h : k ≠ 0 → na' k = na k) : rn na' k = rn na k := by
  unfold rn
  by_cases z : k = 0
  · rw [if_pos z, if_pos z]
  · rw [if_neg z, if_neg z, h z]
theorem cx_n.re {h : ia_H} {u v n : Nat} {na sa na' sa' : Nat → Nat} {x : nN} (y : cx_n h u v na sa x n) (e1 : na' n = na n) (e2 : zL x ≠ 0 → sa' n = sa n) (eP : rn na' (zP x) = rn na (zP x)) (eK : zL x ≠ 0 → rn na' (zK x) = rn na (zK x)) (eM : zL x ≠ 0 → rn na' (zM x) = rn na (zM x)) : cx_n h u v na' sa' x n := by
  obtain ⟨a0, a1, st, e, t0, t1, b, y1, y2⟩ := y
  refine ⟨a0, a1, st, by rw [e1, eP]; exact e, t0, t1, by rw [e1]; exact b, y1, fun l => ?_⟩
  obtain ⟨z1, c1, c2, vv, pt, es, z2⟩ := y2 l
  exact ⟨by rw [e2 l]; exact z1, c1, c2, vv, pt, by rw [e2 l, eK l, eM l]; exact es, by rw [e2 l]; exact z2⟩
theorem CY.refined {A : aS} {h1 h5 : ia_H} {u c1 v1 c21 n w s Y1 Y2 a0 a1 : Nat} {na sa : Nat → Nat} {x : Int32} {f5 : Nat → Value} {k1 k2 cc1 cc2 pt : Value} {vv : Int32} (y : CY A h1 u c1 v1 c21 na sa) (hA : AI A) (n1 : 1 ≤ n) (n2 : n ≤ 16) (n3 : zE (aN A n) = true) (w8 : w ≤ 8) (w1 : 1 ≤ w) (l : zL (aN A n) = 0) (ok : rfo (aN A) (aR A) (kA A n w) (cA A n w x))
    (en : h1.1 (na n) = some (.inr (5, [rn na (zP (aN A n)), .int (zF (aN A n)), .ref a0, .ref a1, .int (nI n), .null]))) (t0 : tt h1 u v1 a0 (zT (aN A n) 0)) (t1 : tt h1 u v1 a1 (zT (aN A n) 1))
    (es : h1.1 s = some (.inr (7, [.int (nI w), k1, k2, cc1, cc2, .int 0, .int vv, pt]))) (s142 : 142 ≤ s) (slt : s < h1.2) (sfree : ∀ m, 1 ≤ m → m ≤ 16 → zE (aN A m) = true → zL (aN A m) ≠ 0 → sa m ≠ s)
    (hk1 : 3 ≤ w → k1 = .ref Y1) (hk1' : ¬ 3 ≤ w → k1 = .null) (hk2 : w = 3 ∨ w = 4 → k2 = .ref Y2) (hk2' : ¬ (w = 3 ∨ w = 4) → k2 = .null)
    (cd1 : cnd h1 u v1 (1 ≤ ncw w) cc1 ((cA A n w x).getD 0 [])) (cd2 : cnd h1 u v1 (2 ≤ ncw w) cc2 ((cA A n w x).getD 1 [])) (hv : w = 2 → vv = nI x.toNatClampNeg) (hp : w = 2 ∨ w = 4 ∨ w = 5 → ∃ a, pt = .ref a ∧ tt h1 u v1 a (gA A w))
    (hY1 : 3 ≤ w → (142 ≤ Y1 ∧ Y1 < h1.2) ∧ (∃ b0 b1, tt h1 u v1 b0 ((kA A n w).getD 0 []) ∧ tt h1 u v1 b1 ((kA A n w).getD 1 []) ∧ h5.1 Y1 = some (.inr (5, [.ref (na n), .int (if w = 8 then x else zF (aN A n)), .ref b0, .ref b1, .int (nI (k1N (aN A) w)), .null]))) ∧ (∃ r, h1.1 Y1 = some (.inr (5, r))) ∧ ∀ m, 1 ≤ m → m ≤ 16 → zE (aN A m) = true → na m ≠ Y1)
    (hY2 : w = 3 ∨ w = 4 → (142 ≤ Y2 ∧ Y2 < h1.2) ∧ (∃ b0 b1, tt h1 u v1 b0 ((kA A n w).getD 2 []) ∧ tt h1 u v1 b1 ((kA A n w).getD 3 []) ∧ h5.1 Y2 = some (.inr (5, [.ref (na n), .int (if w = 8 then x else zF (aN A n)), .ref b0, .ref b1, .int (nI (k2N (aN A) w)), .null]))) ∧ (∃ r, h1.1 Y2 = some (.inr (5, r))) ∧ ∀ m, 1 ≤ m → m ≤ 16 → zE (aN A m) = true → na m ≠ Y2)
    (hs5 : h5.2 = h1.2) (e64 : cx_0 h5 (aW A 3) (aR A + 1)) (e68 : h5.1 68 = some (.inl (.object "RefinementBench$Node", 17, f5))) (f5h : ∀ m, 1 ≤ m → m ≤ 16 → f5 m = if 3 ≤ w ∧ m = k1N (aN A) w then .ref Y1 else if (w = 3 ∨ w = 4) ∧ m = k2N (aN A) w then .ref Y2 else if zE (aN A m) = true then .ref (na m) else .null)
    (e5n : h5.1 (na n) = some (.inr (5, [rn na (zP (aN A n)), .int (zF (aN A n)), .ref a0, .ref a1, .int (nI n), .ref s])))
    (hk5 : ∀ q, q ≠ 64 → q ≠ 68 → q ≠ na n → (3 ≤ w → q ≠ Y1) → (w = 3 ∨ w = 4 → q ≠ Y2) → h5.1 q = h1.1 q) : CX (aB A, aQ A, rfN (aN A) n w x (kA A n w) (cA A n w x) (gA A w), aR A + 1, A.2.2.2.2) h5 := by
  obtain ⟨⟨y0, yb, ysl, ynd, ydr, yjg, ycd, yar, yk⟩, ⟨v1', v2, v3, v4⟩, yn⟩ := y
  have lb := yb.lt
  have ld := ydr.2.lt
  have h5' := hA.2.2.2.2
  obtain ⟨b0', b1', st', en', -, -, bb, -, -⟩ := yn.1 n n1 n2 n3
  have kn' : (kA A n w).length = 2 * nkw w := rf_k_n w8
  have hr : 2 * nkw w + 2 * ctN (aN A) 16 ≤ 32 := by rw [← kn']; exact ok.1.1
  have x1 : 3 ≤ w → (1 ≤ k1N (aN A) w ∧ k1N (aN A) w ≤ 16) ∧ ¬ zE (aN A (k1N (aN A) w)) = true := fun z => k1N_in w8 z hr
  have x2 : w = 3 ∨ w = 4 → (1 ≤ k2N (aN A) w ∧ k2N (aN A) w ≤ 16) ∧ ¬ zE (aN A (k2N (aN A) w)) = true ∧ k1N (aN A) w ≠ k2N (aN A) w := fun z => k2N_in z hr
  have q1 : 3 ≤ w → k1N (aN A) w ≠ n := fun z q => (x1 z).2 (q ▸ n3)
  have q2 : w = 3 ∨ w = 4 → k2N (aN A) w ≠ n := fun z q => (x2 z).2.1 (q ▸ n3)
  have hc : ∀ q, q ≠ 64 → q ≠ 68 → q < 142 → h5.1 q = h1.1 q := fun q z1 z2 z3 => hk5 q z1 z2 (by omega) (fun z => by have := (hY1 z).1; omega) (fun z => by have := (hY2 z).1; omega)
  -- what is written is none of the Strings
  have hfr : sx_fr h1 h5 (fun q => q = 64 ∨ q = 68 ∨ q = na n ∨ (3 ≤ w ∧ q = Y1) ∨ ((w = 3 ∨ w = 4) ∧ q = Y2)) := ⟨by omega, fun q _ hS => hk5 q (fun z => hS (Or.inl z)) (fun z => hS (Or.inr (Or.inl z))) (fun z => hS (Or.inr (Or.inr (Or.inl z)))) (fun z1 z => hS (Or.inr (Or.inr (Or.inr (Or.inl ⟨z1, z⟩))))) (fun z1 z => hS (Or.inr (Or.inr (Or.inr (Or.inr ⟨z1, z⟩)))))⟩
  have k : ks h1 h5 u v1 u v1 := by
    refine ks_fr hfr (fun q hq => ?_) (Or.inl rfl) (Or.inl rfl)
    right; right
    have no5 : ∀ {q : Nat} {r : List Value}, h1.1 q = some (.inr (5, r)) → ((∀ r, h1.1 q ≠ some (.inr (10, r))) ∧ ∀ n f, h1.1 q ≠ some (.inl (.byte, n, f))) := fun e => ⟨fun r w => (by rw [e] at w; cases w), fun n f w => (by rw [e] at w; cases w)⟩
    rcases hq with rfl | rfl | rfl | ⟨z, rfl⟩ | ⟨z, rfl⟩
    · exact ⟨fun r w => (by rw [y0] at w; cases w), fun n f w => (by rw [y0] at w; cases w)⟩
    · obtain ⟨f, e, -⟩ := ynd
      exact ⟨fun r w => (by rw [e] at w; cases w), fun n f w => (by rw [e] at w; cases w)⟩
    · exact no5 en
    · obtain ⟨r, e⟩ := (hY1 z).2.2.1
      exact no5 e
    · obtain ⟨r, e⟩ := (hY2 z).2.2.1
      exact no5 e
  have nby : ∀ q, (∃ m f, h1.1 q = some (.inl (.byte, m, f))) → q ≠ na n ∧ (3 ≤ w → q ≠ Y1) ∧ (w = 3 ∨ w = 4 → q ≠ Y2) := by
    rintro q ⟨m, f, e⟩
    refine ⟨fun z => (by rw [z, en] at e; cases e), fun z1 z => ?_, fun z1 z => ?_⟩
    · obtain ⟨r, e'⟩ := (hY1 z1).2.2.1
      rw [z, e'] at e; cases e
    · obtain ⟨r, e'⟩ := (hY2 z1).2.2.1
      rw [z, e'] at e; cases e
  have ku : h5.1 u = h1.1 u := hk5 u (by omega) (by omega) (nby u lb.2.2.1).1 (nby u lb.2.2.1).2.1 (nby u lb.2.2.1).2.2
  have kv : h5.1 v1 = h1.1 v1 := hk5 v1 (by omega) (by omega) (nby v1 ld.2.2.1).1 (nby v1 ld.2.2.1).2.1 (nby v1 ld.2.2.1).2.2
  have n7 : ∀ q r, h1.1 q = some (.inr (7, r)) → 142 ≤ q → h5.1 q = h1.1 q := by
    intro q r e z
    refine hk5 q (by omega) (by omega) (fun z => by rw [z, en] at e; cases e) (fun z1 z => ?_) (fun z1 z => ?_)
    · obtain ⟨r, e'⟩ := (hY1 z1).2.2.1
      rw [z, e'] at e; cases e
    · obtain ⟨r, e'⟩ := (hY2 z1).2.2.1
      rw [z, e'] at e; cases e
  generalize hM : rfN (aN A) n w x (kA A n w) (cA A n w x) (gA A w) = M
  have Mn : M n = atN (aN A n) w (k1N (aN A) w) (k2N (aN A) w) x (gA A w) (cA A n w x) := by rw [← hM]; exact rfN_at
  have M1 : 3 ≤ w → M (k1N (aN A) w) = nwN (if w = 8 then x else zF (aN A n)) n (zR (aN A n) + 1) ((kA A n w).getD 0 []) ((kA A n w).getD 1 []) := fun z => by rw [← hM]; exact rfN_1 z (q1 z)
  have M2 : w = 3 ∨ w = 4 → M (k2N (aN A) w) = nwN (if w = 8 then x else zF (aN A n)) n (zR (aN A n) + 1) ((kA A n w).getD 2 []) ((kA A n w).getD 3 []) := fun z => by rw [← hM]; exact rfN_2 z (q2 z) (fun q => (x2 z).2.2 q.symm)
  have Mo : ∀ m, m ≠ n → (3 ≤ w → m ≠ k1N (aN A) w) → (w = 3 ∨ w = 4 → m ≠ k2N (aN A) w) → M m = aN A m := fun m z1 z2 z3 => by rw [← hM]; exact rfN_o z1 z2 z3
  -- the new places
  let na' : Nat → Nat := fun m => if 3 ≤ w ∧ m = k1N (aN A) w then Y1 else if (w = 3 ∨ w = 4) ∧ m = k2N (aN A) w then Y2 else na m
  let sa' : Nat → Nat := fun m => if m = n then s else sa m
  have naO : ∀ m, (3 ≤ w → m ≠ k1N (aN A) w) → (w = 3 ∨ w = 4 → m ≠ k2N (aN A) w) → na' m = na m := fun m z1 z2 => (if_neg (fun z => z1 z.1 z.2)).trans (if_neg (fun z => z2 z.1 z.2))
  have naE : ∀ m, 1 ≤ m → m ≤ 16 → zE (aN A m) = true → na' m = na m := fun m _ _ m3 => naO m (fun z q => (x1 z).2 (q ▸ m3)) (fun z q => (x2 z).2.1 (q ▸ m3))
  have na1 : 3 ≤ w → na' (k1N (aN A) w) = Y1 := fun z => if_pos ⟨z, rfl⟩
  have na2 : w = 3 ∨ w = 4 → na' (k2N (aN A) w) = Y2 := fun z => (if_neg (fun q => (x2 z).2.2 q.2.symm)).trans (if_pos ⟨z, rfl⟩)
  have nan : na' n = na n := naE n n1 n2 n3
  have upE : ∀ m, 1 ≤ m → m ≤ 16 → zE (aN A m) = true → rn na' (zP (aN A m)) = rn na (zP (aN A m)) := by
    intro m m1 m2 m3
    refine rn_eq (fun z => ?_)
    obtain ⟨-, -, p, -⟩ := h5' m m1 m2 m3
    rcases p with p | ⟨⟨p1, p2, p3⟩, -⟩
    · exact absurd p.1 z
    · exact naE _ p1 p2 p3
  refine ⟨u, c1, v1, c21, na', sa', ⟨e64, yb.keep (hc 65 (by omega) (by omega) (by omega)) ku (by omega), ysl.keep k (hc 67 (by omega) (by omega) (by omega)) (fun i hi => hc _ (by omega) (by omega) (by omega)), ⟨f5, e68, fun m m1 m2 => ?_⟩, ydr.keep (hc 69 (by omega) (by omega) (by omega)) (hc 70 (by omega) (by omega) (by omega)) kv (by omega), yjg.keep (fun q _ _ => hc q (by omega) (by omega) (by omega)), ycd.keep (fun q _ _ => hc q (by omega) (by omega) (by omega)), yar.keep (hc 111 (by omega) (by omega) (by omega)) (hc 112 (by omega) (by omega) (by omega)), yk.keep k⟩, ⟨v1', v2, v3, by omega⟩, fun m m1 m2 m3 => ?_, fun m m' m1 m2 m1' m2' m3 m3' l1 l2 e => ?_⟩
  · show f5 m = if zE (M m) = true then Value.ref (na' m) else .null
    rw [f5h m m1 m2]
    by_cases z1 : 3 ≤ w ∧ m = k1N (aN A) w
    · rw [if_pos z1, z1.2, M1 z1.1, na1 z1.1]; rfl
    · rw [if_neg z1]
      by_cases z2 : (w = 3 ∨ w = 4) ∧ m = k2N (aN A) w
      · rw [if_pos z2, z2.2, M2 z2.1, na2 z2.1]; rfl
      · rw [if_neg z2, naO m (fun a b => z1 ⟨a, b⟩) (fun a b => z2 ⟨a, b⟩)]
        by_cases z3 : m = n
        · rw [z3, Mn]; rfl
        · rw [Mo m z3 (fun a b => z1 ⟨a, b⟩) (fun a b => z2 ⟨a, b⟩)]
  · show cx_n h5 u v1 na' sa' (M m) m
    have m3' : zE (M m) = true := m3
    by_cases z3 : m = n
    · subst z3
      rw [Mn]
      refine ⟨a0, a1, .ref s, ?_, k _ _ t0, k _ _ t1, by rw [nan]; omega, fun z => absurd z (by show ¬ w = 0; omega), fun _ => ⟨by show Value.ref s = .ref (if m = m then s else sa m); rw [if_pos rfl], ?_⟩⟩
      · rw [nan]
        show h5.1 (na m) = some (.inr (5, [rn na' (zP (aN A m)), .int (zF (aN A m)), .ref a0, .ref a1, .int (nI m), .ref s]))
        rw [upE m n1 n2 n3]; exact e5n
      · show cx_st h5 u v1 na' (atN (aN A m) w (k1N (aN A) w) (k2N (aN A) w) x (gA A w) (cA A m w x)) (if m = m then s else sa m)
        rw [if_pos rfl]
        refine ⟨cc1, cc2, vv, pt, ?_, cd1.keep k, cd2.keep k, hv, fun z => by obtain ⟨a, e, t⟩ := hp z; exact ⟨a, e, k _ _ t⟩, s142, by omega⟩
        rw [n7 s _ es s142, es]
        show (some (.inr (7, [.int (nI w), k1, k2, cc1, cc2, .int 0, .int vv, pt])) : Option ia_E) = some (.inr (7, [.int (nI w), rn na' (k1N (aN A) w), rn na' (k2N (aN A) w), cc1, cc2, .int 0, .int vv, pt]))
        have ek1 : rn na' (k1N (aN A) w) = k1 := by
          by_cases z : 3 ≤ w
          · rw [hk1 z, show rn na' (k1N (aN A) w) = .ref (na' (k1N (aN A) w)) from if_neg (by have := (x1 z).1; omega), na1 z]
          · rw [hk1' z, show k1N (aN A) w = 0 from if_neg z]; rfl
        have ek2 : rn na' (k2N (aN A) w) = k2 := by
          by_cases z : w = 3 ∨ w = 4
          · rw [hk2 z, show rn na' (k2N (aN A) w) = .ref (na' (k2N (aN A) w)) from if_neg (by have := (x2 z).1; omega), na2 z]
          · rw [hk2' z, show k2N (aN A) w = 0 from if_neg z]; rfl
        rw [ek1, ek2]
    · by_cases z1 : 3 ≤ w ∧ m = k1N (aN A) w
      · obtain ⟨z, rfl⟩ := z1
        obtain ⟨b1, ⟨b0, b2, tb0, tb1, e5⟩, -⟩ := hY1 z
        rw [M1 z]
        refine ⟨b0, b2, .null, ?_, k _ _ tb0, k _ _ tb1, by rw [na1 z]; omega, fun _ => rfl, fun z => absurd rfl z⟩
        rw [na1 z]
        show h5.1 Y1 = some (.inr (5, [rn na' n, .int (if w = 8 then x else zF (aN A n)), .ref b0, .ref b2, .int (nI (k1N (aN A) w)), .null]))
        rw [show rn na' n = .ref (na' n) from if_neg (by omega), nan]; exact e5
      · by_cases z2 : (w = 3 ∨ w = 4) ∧ m = k2N (aN A) w
        · obtain ⟨z, rfl⟩ := z2
          obtain ⟨b1, ⟨b0, b2, tb0, tb1, e5⟩, -⟩ := hY2 z
          rw [M2 z]
          refine ⟨b0, b2, .null, ?_, k _ _ tb0, k _ _ tb1, by rw [na2 z]; omega, fun _ => rfl, fun z => absurd rfl z⟩
          rw [na2 z]
          show h5.1 Y2 = some (.inr (5, [rn na' n, .int (if w = 8 then x else zF (aN A n)), .ref b0, .ref b2, .int (nI (k2N (aN A) w)), .null]))
          rw [show rn na' n = .ref (na' n) from if_neg (by omega), nan]; exact e5
        · rw [Mo m z3 (fun a b => z1 ⟨a, b⟩) (fun a b => z2 ⟨a, b⟩)] at m3' ⊢
          have ym := yn.1 m m1 m2 m3'
          obtain ⟨c0, c1', st, em, -, -, cb, -, ysm⟩ := id ym
          have kept : cx_n h5 u v1 na sa (aN A m) m := by
            refine ym.keep k (hk5 _ (by omega) (by omega) (fun z => z3 (yn.inj m1 m2 m3' n1 n2 n3 z)) (fun z => (hY1 z).2.2.2 m m1 m2 m3') (fun z => (hY2 z).2.2.2 m m1 m2 m3')) (fun lm => ?_) (by omega)
            obtain ⟨-, d1, d2, dv, dp, de, -, -, -, -, ds1, ds2⟩ := ysm lm
            exact n7 _ _ de ds1
          obtain ⟨-, l8, -, ⟨j1, j1'⟩, ⟨j2, j2'⟩, -⟩ := h5' m m1 m2 m3'
          refine kept.re (naE m m1 m2 m3') (fun _ => if_neg z3) (upE m m1 m2 m3') (fun _ => rn_eq (fun z => ?_)) (fun _ => rn_eq (fun z => ?_))
          · by_cases g3 : 3 ≤ zL (aN A m)
            · obtain ⟨⟨g1, g2, g4⟩, -⟩ := j1 g3
              exact naE _ g1 g2 g4
            · exact absurd (j1' (by omega)) z
          · by_cases g3 : zL (aN A m) = 3 ∨ zL (aN A m) = 4
            · obtain ⟨⟨g1, g2, g4⟩, -⟩ := j2 g3
              exact naE _ g1 g2 g4
            · exact absurd (j2' g3) z
  · have pick : ∀ m, 1 ≤ m → m ≤ 16 → zE (M m) = true → zL (M m) ≠ 0 → m = n ∨ (m ≠ n ∧ zE (aN A m) = true ∧ zL (aN A m) ≠ 0) := by
      intro m m1 m2 m3 lm
      by_cases z3 : m = n
      · exact Or.inl z3
      · by_cases z1 : 3 ≤ w ∧ m = k1N (aN A) w
        · obtain ⟨z, rfl⟩ := z1
          rw [M1 z] at lm; exact absurd rfl lm
        · by_cases z2 : (w = 3 ∨ w = 4) ∧ m = k2N (aN A) w
          · obtain ⟨z, rfl⟩ := z2
            rw [M2 z] at lm; exact absurd rfl lm
          · rw [Mo m z3 (fun a b => z1 ⟨a, b⟩) (fun a b => z2 ⟨a, b⟩)] at m3 lm
            exact Or.inr ⟨z3, m3, lm⟩
    have e' : (if m = n then s else sa m) = (if m' = n then s else sa m') := e
    rcases pick m m1 m2 m3 l1 with z | ⟨z, zE1, zL1⟩
    · rcases pick m' m1' m2' m3' l2 with z' | ⟨z', zE2, zL2⟩
      · rw [z, z']
      · rw [if_pos z, if_neg z'] at e'
        exact absurd e'.symm (sfree m' m1' m2' zE2 zL2)
    · rcases pick m' m1' m2' m3' l2 with z' | ⟨z', zE2, zL2⟩
      · rw [if_neg z, if_pos z'] at e'
        exact absurd e' (sfree m m1 m2 zE1 zL1)
      · rw [if_neg z, if_neg z'] at e'
        exact yn.2 m m' m1 m2 m1' m2' zE1 zE2 zL1 zL2 e'
