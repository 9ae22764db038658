/-! THE CLASS, 2: type and hold. -/
theorem bo_sh : ∀ k : Fin 8, (((8 * nI k.val).toInt64.toUInt64 &&& Int64.toUInt64 63).toBitVec % 64).toNat = 8 * k.val ∧ (((8 * nI k.val).toInt64 &&& 63).toBitVec.smod 64).toNat = 8 * k.val := by decide +kernel
theorem bo_255 : ∀ i : Fin 64, (255#64).getLsbD i.val = decide (i.val < 8) := by decide +kernel
theorem bo_255' : ∀ i : Fin 32, (255#32).getLsbD i.val = decide (i.val < 8) := by decide +kernel
theorem bo_eq (w : Int64) (k : Fin 8) : (w.toUInt64 >>> ((8 * nI k.val).toInt64.toUInt64 &&& Int64.toUInt64 63)).toInt64.toInt32 &&& 255 = ty_c w k.val := by
  obtain ⟨s1, s2⟩ := bo_sh k
  unfold ty_c
  apply Int32.toBitVec_inj.mp
  apply BitVec.eq_of_getLsbD_eq
  intro i hi
  rw [Int32.toBitVec_and, Int64.toBitVec_toInt32, UInt64.toBitVec_toInt64, UInt64.toBitVec_shiftRight, Int64.toBitVec_toInt32, Int64.toBitVec_and, Int64.toBitVec_shiftRight]
  rw [BitVec.getLsbD_and, BitVec.getLsbD_signExtend, BitVec.getLsbD_signExtend, BitVec.getLsbD_and]
  rw [show (255 : Int32).toBitVec = 255#32 from rfl, show (255 : Int64).toBitVec = 255#64 from rfl, bo_255' ⟨i, hi⟩, bo_255 ⟨i, by omega⟩]
  rw [if_pos (by omega), if_pos (by omega)]
  show ((decide (i < 32) && (w.toUInt64.toBitVec >>> (((8 * nI k.val).toInt64.toUInt64 &&& Int64.toUInt64 63).toBitVec % 64).toNat).getLsbD i) && decide (i < 8)) = (decide (i < 32) && ((w.toBitVec.sshiftRight (((8 * nI k.val).toInt64 &&& 63).toBitVec.smod 64).toNat).getLsbD i && decide (i < 8)))
  rw [s1, s2, BitVec.getLsbD_ushiftRight, BitVec.getLsbD_sshiftRight]
  by_cases h8 : i < 8
  · have := k.isLt
    rw [if_pos (by omega)]
    simp [hi, h8, show ¬ 64 ≤ i by omega]
  · simp [h8]
theorem cl_byteOf {G : ia_G} {h : ia_H} {d k : Nat} {w : Int64} (hk : k < 8) : ia_Cn pg G kk_R_byteOf d 0 0 [.long w, .int (nI k)] h (fun rv h' => rv = some (.int (ty_c w k)) ∧ h' = h) := by
  refine jd_met (ls := [.long w, .retAddr 0, .int (nI k)]) rfl rfl rfl ?_
  refine ia_go 8 rfl ?_
  rw [show (w.toUInt64 >>> ((8 * nI k).toInt64.toUInt64 &&& Int64.toUInt64 63)).toInt64.toInt32 &&& 255 = ty_c w k from bo_eq w ⟨k, hk⟩]
  exact jd_rv1 rfl rfl rfl trivial ⟨rfl, rfl⟩
theorem cl_arloop {G : ia_G} {h : ia_H} {d N : Nat} {w : Int64} (hd : 1 ≤ d) (hN : N ≤ 8) : ∀ (r k : Nat), k + r = N → (∀ i, i < k → ty_ok (ty_c w i)) → ∀ z4 : Value, ia_Sx pg G kk_R_arePrintable d 0 0 2 [.long w, .retAddr 0, .int (nI N), .int (nI k), z4] [] h (fun rv h' => h' = h ∧ ∃ b, rv = some (.int b) ∧ bn (∀ i, i < N → ty_ok (ty_c w i)) b) := by
  intro r
  induction r with
  | zero =>
    intro k hk hp z4
    obtain rfl : k = N := by omega
    refine ia_go 3 rfl ?_
    rw [if_pos (by exact (Int32.le_refl _))]
    refine ia_go 1 rfl ?_
    exact jd_rv1 rfl rfl rfl rfl ⟨rfl, 1, rfl, Or.inl ⟨rfl, hp⟩⟩
  | succ r ih =>
    intro k hk hp z4
    by_cases h1 : ty_c w k < 33
    ·
      refine ia_go 3 rfl ?_
      rw [if_neg (by exact (nI_ge (by omega) (by omega)))]
      refine ia_go 2 rfl ?_
      refine jd_cS [.long w, .int (nI k)] [] 0 0 (d' := d - 1) rfl rfl rfl rfl rfl (by omega) (by omega) (by omega) (cl_byteOf (by omega)) ?_
      rintro rv h' ⟨rfl, hh⟩
      refine ia_go 1 rfl ?_
      dsimp only [ia_s1, ia_s2, ia_cl, ia_D, List.getElem?_cons_zero, List.getElem?_cons_succ, List.set_cons_zero, List.set_cons_succ]
      refine ia_go 3 rfl ?_
      subst hh
      rw [if_pos (by exact h1)]
      refine ia_go 1 rfl ?_
      exact jd_rv1 rfl rfl rfl rfl ⟨rfl, 0, rfl, Or.inr ⟨rfl, fun z => absurd (z k (by omega)).1 (Int32.not_le.mpr h1)⟩⟩
    by_cases h2 : ty_c w k ≤ 126
    ·
      refine ia_go 3 rfl ?_
      rw [if_neg (by exact (nI_ge (by omega) (by omega)))]
      refine ia_go 2 rfl ?_
      refine jd_cS [.long w, .int (nI k)] [] 0 0 (d' := d - 1) rfl rfl rfl rfl rfl (by omega) (by omega) (by omega) (cl_byteOf (by omega)) ?_
      rintro rv h' ⟨rfl, hh⟩
      refine ia_go 1 rfl ?_
      dsimp only [ia_s1, ia_s2, ia_cl, ia_D, List.getElem?_cons_zero, List.getElem?_cons_succ, List.set_cons_zero, List.set_cons_succ]
      refine ia_go 3 rfl ?_
      subst hh
      rw [if_neg (by exact h1)]
      refine ia_go 3 rfl ?_
      rw [if_pos (by exact h2)]
      refine ia_go 1 rfl ?_
      dsimp only [ia_s1, ia_s2, ia_cl, ia_D, List.getElem?_cons_zero, List.getElem?_cons_succ, List.set_cons_zero, List.set_cons_succ]
      refine ia_go 1 rfl ?_
      rw [show nI k + Int32.ofInt 1 = nI (k + 1) from nI_1 k]
      refine ih (k + 1) (by omega) (fun i hi => ?_) _
      by_cases e : i = k
      · rw [e]; exact ⟨Int32.not_lt.mp h1, h2⟩
      · exact hp i (by omega)
    ·
      refine ia_go 3 rfl ?_
      rw [if_neg (by exact (nI_ge (by omega) (by omega)))]
      refine ia_go 2 rfl ?_
      refine jd_cS [.long w, .int (nI k)] [] 0 0 (d' := d - 1) rfl rfl rfl rfl rfl (by omega) (by omega) (by omega) (cl_byteOf (by omega)) ?_
      rintro rv h' ⟨rfl, hh⟩
      refine ia_go 1 rfl ?_
      dsimp only [ia_s1, ia_s2, ia_cl, ia_D, List.getElem?_cons_zero, List.getElem?_cons_succ, List.set_cons_zero, List.set_cons_succ]
      refine ia_go 3 rfl ?_
      subst hh
      rw [if_neg (by exact h1)]
      refine ia_go 3 rfl ?_
      rw [if_neg (by exact h2)]
      refine ia_go 1 rfl ?_
      exact jd_rv1 rfl rfl rfl rfl ⟨rfl, 0, rfl, Or.inr ⟨rfl, fun z => h2 (z k (by omega)).2⟩⟩
theorem cl_are {G : ia_G} {h : ia_H} {d N : Nat} {w : Int64} (hd : 1 ≤ d) (hN : N ≤ 8) : ia_Cn pg G kk_R_arePrintable d 0 0 [.long w, .int (nI N)] h (fun rv h' => h' = h ∧ ∃ b, rv = some (.int b) ∧ bn (∀ i, i < N → ty_ok (ty_c w i)) b) := by
  refine jd_met (ls := [.long w, .retAddr 0, .int (nI N), .retAddr 0, .retAddr 0]) rfl rfl rfl ?_
  refine ia_go 2 rfl ?_
  dsimp only [ia_s1, ia_s2, ia_cl, ia_D, List.getElem?_cons_zero, List.getElem?_cons_succ, List.set_cons_zero, List.set_cons_succ]
  exact cl_arloop hd hN N 0 (by omega) (fun i hi => absurd hi (Nat.not_lt_zero i)) _
/-- a builder that has been written to: b its cell, u the array it had at first -/
theorem sx_fr.nx {h0 h h' : ia_H} {b u u1 : Nat} (a : sx_fr h0 h (fun q => q = b ∨ q = u)) (c : sx_fr h h' (fun q => q = b ∨ q = u1)) (hu : u1 = u ∨ h0.2 ≤ u1) : sx_fr h0 h' (fun q => q = b ∨ q = u) := by
  refine ⟨Nat.le_trans a.1 c.1, fun q hq hS => ?_⟩
  rw [c.2 q (Nat.lt_of_lt_of_le hq a.1) (fun z => ?_)]
  · exact a.2 q hq hS
  · rcases z with z | z
    · exact hS (Or.inl z)
    · rcases hu with hu | hu
      · exact hS (Or.inr (z.trans hu))
      · omega
/-- only the buffer has changed -/
theorem CY.buf {A : aS} {h h' : ia_H} {u c1 v c2 u' c1' : Nat} {na sa : Nat → Nat} {B' : List Int32} (y : CY A h u c1 v c2 na sa) (hB : sx_b h' 65 u' c1' B') (hf : sx_fr h h' (fun q => q = 65 ∨ q = u)) (hu : u' = u ∨ h.2 ≤ u') : CY (B', A.2) h' u' c1' v c2 na sa ∧ sx_fr h h' cx_S := by
  obtain ⟨⟨y0, yb, ysl, ynd, ydr, yjg, ycd, yar, yk⟩, ⟨v1, v2, v3, v4⟩, yn⟩ := y
  have lb := yb.lt
  have ld := ydr.2.lt
  have z : ∀ q, q ≠ 65 → q ≠ 66 → q < 142 → h'.1 q = h.1 q := fun q q1 q2 q3 => hf.2 q (by omega) (fun z => by omega)
  have k : ks h h' u v u' v := by
    refine ks_fr hf (fun q hq => ?_) hu (Or.inl rfl)
    rcases hq with rfl | rfl
    · right; right
      obtain ⟨fs, e⟩ := lb.2.2.2
      exact ⟨fun r w => (by rw [e] at w; cases w), fun n f w => (by rw [e] at w; cases w)⟩
    · exact Or.inl rfl
  refine ⟨⟨⟨(z 64 (by omega) (by omega) (by omega)).trans y0, hB, ysl.keep k (z 67 (by omega) (by omega) (by omega)) (fun i hi => z _ (by omega) (by omega) (by omega)), ynd.keep (z 68 (by omega) (by omega) (by omega)), ydr.keep (z 69 (by omega) (by omega) (by omega)) (z 70 (by omega) (by omega) (by omega)) (hf.2 v ld.2.1 (fun z => by omega)) hf.1, yjg.keep (fun q _ _ => z q (by omega) (by omega) (by omega)), ycd.keep (fun q _ _ => z q (by omega) (by omega) (by omega)), yar.keep (z 111 (by omega) (by omega) (by omega)) (z 112 (by omega) (by omega) (by omega)), yk.keep k⟩, ⟨by omega, v2, by omega, by have := hf.1; omega⟩, yn.keep k (fun q q1 q2 q3 => hf.2 q q2 (fun w => ?_)) hf.1⟩, hf.1, fun q hq hS => hf.2 q hq (fun w => hS ?_)⟩
  · rcases w with w | rfl
    · omega
    · obtain ⟨n, f, e⟩ := lb.2.2.1
      rcases q3 with ⟨r, q3⟩ | ⟨r, q3⟩
      · rw [e] at q3; cases q3
      · rw [e] at q3; cases q3
  · unfold cx_S rm_S
    omega
theorem i2c_ok : ∀ j : Fin 127, ((nI j.val).toUInt32 % 65536).toInt32 = nI j.val := by decide +kernel
theorem ty_i2c {c : Int32} (h : ty_ok c) : (c.toUInt32 % 65536).toInt32 = c ∧ 0 ≤ c ∧ c ≤ 127 := by
  have h0 : ¬ c < 0 := fun z => absurd z (Int32.not_lt.mpr (Int32.le_trans (show (0 : Int32) ≤ 33 by decide) h.1))
  obtain ⟨j, hj, rfl⟩ := nI_of2 (M := 126) (n := 126) (by decide) h0 h.2
  exact ⟨i2c_ok ⟨j, by omega⟩, Int32.not_lt.mp h0, Int32.le_trans h.2 (by decide)⟩
theorem ty_take {w : Int64} {N r : Nat} (hr : r + 1 ≤ N) : (ty_l w N).take (N - r) = (ty_l w N).take (N - (r + 1)) ++ [ty_c w r] := by
  have hl : N - (r + 1) < (ty_l w N).length := by rw [ty_l_len]; omega
  have e := ty_l_get (w := w) (n := N) (j := N - (r + 1)) (by omega)
  rw [show N - r = N - (r + 1) + 1 by omega, List.take_succ, e, show N - 1 - (N - (r + 1)) = r by omega]
  rfl
theorem cl_tyloop {G : ia_G} {h0 : ia_H} {d u N : Nat} {w : Int64} {B : List Int32} {fs : List Value} {Post : Option Value → ia_H → Prop} (hd : 6 ≤ d) (hN : N ≤ 8) (h64 : h0.1 64 = some (.inr (0, .ref 65 :: fs))) (hu : u = 66 ∨ 142 ≤ u) (h2 : 142 ≤ h0.2) (hok : ∀ i, i < N → ty_ok (ty_c w i)) (hB : B.length + N ≤ 60) (kk : ∀ (h' : ia_H) (u' c' : Nat), sx_b h' 65 u' c' (B ++ ty_l w N) → sx_fr h0 h' (fun q => q = 65 ∨ q = u) → (u' = u ∨ h0.2 ≤ u') → h'.2 ≤ h0.2 + N → ia_Sx pg G kk_R_type d 0 0 69 [.ref 64, .long w, .retAddr 0, .int (nI N), .int (nI 0 - 1)] [] h' Post) : ∀ r, r ≤ N → ∀ (h : ia_H) (u1 c1 : Nat), sx_b h 65 u1 c1 (B ++ (ty_l w N).take (N - r)) → sx_fr h0 h (fun q => q = 65 ∨ q = u) → (u1 = u ∨ h0.2 ≤ u1) → h.2 ≤ h0.2 + (N - r) → ia_Sx pg G kk_R_type d r (480 * r) 43 [.ref 64, .long w, .retAddr 0, .int (nI N), .int (nI r - 1)] [] h Post := by
  intro r
  induction r with
  | zero =>
    intro _ h u1 c1 hb hf hu1 hs
    rw [Nat.sub_zero, List.take_of_length_le (by rw [ty_l_len]; omega)] at hb
    refine ia_go 2 rfl ?_
    rw [if_pos (by exact (by decide))]
    exact kk h u1 c1 hb hf hu1 hs
  | succ r ih =>
    intro hr h u1 c1 hb hf hu1 hs
    have hc := ty_i2c (hok r (by omega))
    have e64 : h.1 64 = some (.inr (0, .ref 65 :: fs)) := (hf.2 64 (by omega) (fun z => by omega)).trans h64
    obtain ⟨m0, f0, hb0, -⟩ := id hb
    rw [show nI (r + 1) - 1 = nI r from nI_pred r]
    refine ia_go 2 rfl ?_
    rw [if_neg (by exact (nI_pos (by omega)))]
    refine ia_go 1 rfl ?_
    refine ia_getf rfl e64 rfl ?_
    refine ia_go 2 rfl ?_
    refine jd_cS [.long w, .int (nI r)] [.ref 65] 0 0 (d' := d - 1) rfl rfl rfl rfl rfl (by omega) (by omega) (by omega) (cl_byteOf (by omega)) ?_
    rintro rv h' ⟨rfl, hh⟩
    subst hh
    refine ia_go 1 rfl ?_
    rw [hc.1]
    refine jd_cV 65 [.int (ty_c w r)] [] 1 480 (d' := d - 1) rfl rfl rfl hb0 rfl rfl (by omega) (by omega) (by omega) (jd_sappC (by omega) hb (by rw [List.length_append, List.length_take, ty_l_len]; omega) hc.2.1 hc.2.2) ?_
    rintro rv h9 ⟨rfl, v', cap', hB', hfr, hsz, hvv⟩
    refine ia_go 2 rfl ?_
    dsimp only [ia_s1, ia_s2, ia_cl, ia_D, List.getElem?_cons_zero, List.getElem?_cons_succ, List.set_cons_zero, List.set_cons_succ]
    refine ia_go 1 rfl ?_
    rw [show nI r + Int32.ofInt (-1) = nI r - 1 by rw [Int32.sub_eq_add_neg]; rfl]
    refine ia_Sx.room (ih (by omega) h9 v' cap' (by rw [ty_take hr, ← List.append_assoc]; exact hB') (hf.nx hfr hu1) (by have := hf.1; omega) (by omega)) (Nat.le_refl _) (by omega) (by omega)
theorem cx_type {G : ia_G} {h : ia_H} {d : Nat} {A : aS} {w : Int64} {n : Int32} (hd : 6 ≤ d) (y : CX A h) : ia_Cn pg G kk_R_type d 8 3840 [.ref 64, .long w, .int n] h (cx_P h 8 (sp_type A w n)) := by
  have y' := y
  obtain ⟨u, c1, v, c2, na, sa, yy⟩ := y
  obtain ⟨⟨y0, yb, -⟩, ⟨v1, v2, v3, v4⟩, -⟩ := id yy
  obtain ⟨m0, f0, hb0, -⟩ := id yb
  have bad : (¬ ∃ N, n = nI N ∧ 1 ≤ N ∧ N ≤ 8 ∧ ∀ i, i < N → ty_ok (ty_c w i)) → cx_P h 8 (sp_type A w n) (some (.int (-1))) h := fun c => by
    unfold sp_type
    rw [ch_neg c]
    exact ⟨rfl, y', sx_fr.rf, by omega⟩
  by_cases h1 : n < 1
  ·
    refine jd_met (ls := [.ref 64, .long w, .retAddr 0, .int n, .retAddr 0]) rfl rfl rfl ?_
    refine ia_go 3 rfl ?_
    rw [if_pos (by exact h1)]
    refine ia_go 1 rfl ?_
    exact jd_rv1 rfl rfl rfl trivial (bad (by rintro ⟨N, rfl, n1, n8, -⟩; exact absurd h1 (nI_nlt (b := 1) n1 (by omega))))
  by_cases h2 : 8 < n
  ·
    refine jd_met (ls := [.ref 64, .long w, .retAddr 0, .int n, .retAddr 0]) rfl rfl rfl ?_
    refine ia_go 3 rfl ?_
    rw [if_neg (by exact h1)]
    refine ia_go 3 rfl ?_
    rw [if_pos (by exact h2)]
    refine ia_go 1 rfl ?_
    exact jd_rv1 rfl rfl rfl trivial (bad (by rintro ⟨N, rfl, n1, n8, -⟩; exact absurd h2 (nI_nlt (a := 8) n8 (by omega))))
  obtain ⟨N, hN, rfl⟩ := nI_of2 (M := 8) (n := 8) (by decide) (fun z => h1 (Int32.lt_trans z (by decide))) (Int32.not_lt.mp h2)
  have N1 : 1 ≤ N := by
    rcases Nat.eq_zero_or_pos N with z | z
    · rw [z] at h1; exact absurd (by decide) h1
    · exact z
  by_cases hok : ∀ i, i < N → ty_ok (ty_c w i)
  · by_cases h60 : (aB A).length + N ≤ 60
    ·
      refine jd_met (ls := [.ref 64, .long w, .retAddr 0, .int (nI N), .retAddr 0]) rfl rfl rfl ?_
      refine ia_go 3 rfl ?_
      rw [if_neg (by exact h1)]
      refine ia_go 3 rfl ?_
      rw [if_neg (by exact h2)]
      refine ia_go 2 rfl ?_
      refine jd_cS [.long w, .int (nI N)] [] 0 0 (d' := d - 1) rfl rfl rfl rfl rfl (by omega) (by omega) (by omega) (cl_are (by omega) hN) ?_
      rintro rv h' ⟨hh, b, rfl, hb⟩
      refine ia_go 1 rfl ?_
      subst hh
      obtain ⟨rfl, -⟩ | ⟨-, nb⟩ := hb
      rotate_left
      · exact absurd hok nb
      rw [if_pos (by exact (by decide))]
      refine ia_go 1 rfl ?_
      refine ia_getf rfl y0 rfl ?_
      refine jd_cV 65 [] [] 0 0 (d' := d - 1) rfl rfl rfl hb0 rfl rfl (by omega) (by omega) (by omega) (jd_sbcount (by omega) hb0) ?_
      rintro rv h' ⟨rfl, hh⟩
      subst hh
      refine ia_go 1 rfl ?_
      refine ia_go 1 rfl ?_
      rw [nI_add]
      refine ia_go 2 rfl ?_
      rw [if_pos (by exact (nI_le (b := 60) h60 (by omega)))]
      refine ia_go 4 rfl ?_
      dsimp only [ia_s1, ia_s2, ia_cl, ia_D, List.getElem?_cons_zero, List.getElem?_cons_succ, List.set_cons_zero, List.set_cons_succ]
      refine ia_Sx.room (cl_tyloop (B := aB A) (u := u) hd hN y0 v1 v4 hok h60 (fun h' u' c' hB' hf hu hs => ?_) N (Nat.le_refl _) _ u c1 (by rw [Nat.sub_self, List.take_zero, List.append_nil]; exact yb) sx_fr.rf (Or.inl rfl) (by omega)) (Nat.le_refl _) (by omega) (by omega)
      obtain ⟨yf, hfs⟩ := yy.buf hB' hf hu
      obtain ⟨m1, f1, hb1, -⟩ := id hB'
      have e64 := yf.1.1
      refine ia_go 1 rfl ?_
      refine ia_getf rfl e64 rfl ?_
      refine jd_cV 65 [] [] 0 0 (d' := d - 1) rfl rfl rfl hb1 rfl rfl (by omega) (by omega) (by omega) (jd_sbcount (by omega) hb1) ?_
      rintro rv h9 ⟨rfl, hh⟩
      subst hh
      refine jd_rv1 rfl rfl rfl trivial ?_
      unfold sp_type
      rw [ch_pos ⟨N, rfl, N1, hN, hok⟩, nI_clamp (by omega), if_pos h60]
      exact ⟨by rw [List.length_append, ty_l_len], ⟨_, _, _, _, _, _, yf⟩, hfs, by omega⟩
    ·
      refine jd_met (ls := [.ref 64, .long w, .retAddr 0, .int (nI N), .retAddr 0]) rfl rfl rfl ?_
      refine ia_go 3 rfl ?_
      rw [if_neg (by exact h1)]
      refine ia_go 3 rfl ?_
      rw [if_neg (by exact h2)]
      refine ia_go 2 rfl ?_
      refine jd_cS [.long w, .int (nI N)] [] 0 0 (d' := d - 1) rfl rfl rfl rfl rfl (by omega) (by omega) (by omega) (cl_are (by omega) hN) ?_
      rintro rv h' ⟨hh, b, rfl, hb⟩
      refine ia_go 1 rfl ?_
      subst hh
      obtain ⟨rfl, -⟩ | ⟨-, nb⟩ := hb
      rotate_left
      · exact absurd hok nb
      rw [if_pos (by exact (by decide))]
      refine ia_go 1 rfl ?_
      refine ia_getf rfl y0 rfl ?_
      refine jd_cV 65 [] [] 0 0 (d' := d - 1) rfl rfl rfl hb0 rfl rfl (by omega) (by omega) (by omega) (jd_sbcount (by omega) hb0) ?_
      rintro rv h' ⟨rfl, hh⟩
      subst hh
      refine ia_go 1 rfl ?_
      refine ia_go 1 rfl ?_
      rw [nI_add]
      refine ia_go 2 rfl ?_
      rw [if_neg (by exact (fun z => h60 ((nI_leI (b := 60) (by obtain ⟨m, f, -, -, -, -, b1, b2, -⟩ := yb; omega) (by omega)).mp z)))]
      refine ia_go 1 rfl ?_
      refine jd_rv1 rfl rfl rfl trivial ?_
      unfold sp_type
      rw [ch_pos ⟨N, rfl, N1, hN, hok⟩, nI_clamp (by omega), if_neg h60]
      exact ⟨rfl, y', sx_fr.rf, by omega⟩
  ·
    refine jd_met (ls := [.ref 64, .long w, .retAddr 0, .int (nI N), .retAddr 0]) rfl rfl rfl ?_
    refine ia_go 3 rfl ?_
    rw [if_neg (by exact h1)]
    refine ia_go 3 rfl ?_
    rw [if_neg (by exact h2)]
    refine ia_go 2 rfl ?_
    refine jd_cS [.long w, .int (nI N)] [] 0 0 (d' := d - 1) rfl rfl rfl rfl rfl (by omega) (by omega) (by omega) (cl_are (by omega) hN) ?_
    rintro rv h' ⟨hh, b, rfl, hb⟩
    refine ia_go 1 rfl ?_
    subst hh
    obtain ⟨-, nb⟩ | ⟨rfl, -⟩ := hb
    · exact absurd nb hok
    rw [if_neg (by exact (by decide))]
    refine ia_go 1 rfl ?_
    exact jd_rv1 rfl rfl rfl trivial (bad (by rintro ⟨M, e, m1, m8, hm⟩; cases (nI_eq (by omega) (by omega)).mp e; exact hok hm))
