/-! THE LAW: its loop (printed by gen/law.py). -/
theorem sub5 {n i : Nat} (hn : n < 2 ^ 30) (hi : i < 2 ^ 30) : nI n - 5 < nI i ↔ n < i + 5 := by
  rw [Int32.lt_iff_toInt_lt, show nI n - 5 = nI n - nI 5 from rfl, jd_subI hn (by omega), nI_toInt (by omega)]
  omega
theorem and15 (x : Int32) : ∃ k, k ≤ 15 ∧ x &&& 15 = nI k := by
  have hb : (x &&& 15).toBitVec.toNat ≤ 15 := by
    rw [Int32.toBitVec_and, BitVec.toNat_and]
    exact Nat.and_le_right
  refine ⟨(x &&& 15).toBitVec.toNat, hb, ?_⟩
  apply Int32.toBitVec_inj.mp
  show (x &&& 15).toBitVec = BitVec.ofNat 32 (x &&& 15).toBitVec.toNat
  simp
theorem of_5 : Int32.ofInt 5 = nI 5 := by decide +kernel
/-- what holds between two calls -/
def lwJ (A : aS) (n : Nat) (sc : Nat → Int32) (h : ia_H) : Prop := CX A h ∧ RX A h ∧ AI A ∧ (∃ f, h.1 0 = some (.inl (.int, n, f)) ∧ ∀ j, j < n → f j = .int (sc j)) ∧ 142 ≤ h.2
theorem CX.c64 {A : aS} {h : ia_H} (y : CX A h) : ∃ fs, h.1 64 = some (.inr (0, fs)) := by
  obtain ⟨u, c1, v, c2, na, sa, yy⟩ := y
  exact ⟨_, yy.1.1⟩
theorem RX.c117 {A : aS} {h : ia_H} (y : RX A h) : ∃ fs, h.1 117 = some (.inr (8, fs)) := by
  obtain ⟨F, S, hm, -⟩ := y
  exact ⟨_, hm.1⟩
theorem lw_nx {A A' : aS} {n : Nat} {sc : Nat → Int32} {h h1 h2 : ia_H} (J : lwJ A n sc h) (C1 : CX A' h1) (f1 : sx_fr h h1 cx_S) (R2 : RX A' h2) (f2 : sx_fr h1 h2 rm_S) (I' : AI A') : lwJ A' n sc h2 := by
  obtain ⟨-, -, -, ⟨f, e, g⟩, h142⟩ := J
  exact ⟨C1.off f2 (fun q z => z), R2, I', ⟨f, (f2.2 0 (by have := f1.1; omega) (fun z => by have := z.1; omega)).trans ((f1.2 0 (by omega) (fun z => by have := z.1; omega)).trans e), g⟩, by have := f1.1; have := f2.1; omega⟩
section LW
variable {G : ia_G} {d n i r : Nat} {sc : Nat → Int32} {A : aS} {h : ia_H}
set_option maxRecDepth 16384 in
theorem lw_type (hd : 38 ≤ d) (J : lwJ A n sc h) (hi : i + 5 ≤ n) (hn : n ≤ 2560) (ih : ∀ (h : ia_H) (A : aS), lwJ A n sc h → ia_Sx pg G kk_L_law d (29 * r) (11070 * r) 18 [.ref 0, .ref 64, .ref 117, .int (nI (i + 5))] [] h (fun rv h' => rv = some (.int 1))) : ia_Sx pg G kk_L_law d (29 * (r + 1)) (11070 * (r + 1)) 108 [.ref 0, .ref 64, .ref 117, .int (nI i)] [] h (fun rv h' => rv = some (.int 1)) := by
  obtain ⟨C, R, I, ⟨f, e0, g0⟩, h142⟩ := id J
  obtain ⟨fs, e64⟩ := C.c64
  refine ia_go 5 rfl ?_
  rw [show nI i + 1 = nI (i + 1) from nI_add i 1]
  refine ia_iald rfl e0 (vp_in_nI (show i + 1 < n by omega) (by omega)) (v := .int (sc (i + 1))) (by rw [nI_clamp (by omega), g0 _ (by omega)]) ?_
  refine ia_go 7 rfl ?_
  rw [show nI i + 2 = nI (i + 2) from nI_add i 2]
  refine ia_iald rfl e0 (vp_in_nI (show i + 2 < n by omega) (by omega)) (v := .int (sc (i + 2))) (by rw [nI_clamp (by omega), g0 _ (by omega)]) ?_
  refine ia_go 1 rfl ?_
  refine ia_ldc2 rfl ?_
  refine ia_go 6 rfl ?_
  rw [show nI i + 3 = nI (i + 3) from nI_add i 3]
  refine ia_iald rfl e0 (vp_in_nI (show i + 3 < n by omega) (by omega)) (v := .int (sc (i + 3))) (by rw [nI_clamp (by omega), g0 _ (by omega)]) ?_
  refine jd_cV 64 [.long (((sc (i + 1)).toInt64 <<< ((32 : Int32).toInt64 &&& 63)) ||| ((sc (i + 2)).toInt64 &&& 4294967295)), .int (sc (i + 3))] [] 8 3840 (d' := d - 1) rfl rfl rfl e64 rfl rfl (by omega) (by omega) (by omega) (cx_type (by omega) C) ?_
  rintro rv h1 ⟨rfl, C1, f1, -⟩
  have R1 := R.off f1 h142
  have e1 := (f1.2 0 (by omega) (fun z => by have := z.1; omega)).trans e0
  obtain ⟨fs1, e117⟩ := R1.c117
  refine ia_go 5 rfl ?_
  rw [show nI i + 1 = nI (i + 1) from nI_add i 1]
  refine ia_iald rfl e1 (vp_in_nI (show i + 1 < n by omega) (by omega)) (v := .int (sc (i + 1))) (by rw [nI_clamp (by omega), g0 _ (by omega)]) ?_
  refine ia_go 7 rfl ?_
  rw [show nI i + 2 = nI (i + 2) from nI_add i 2]
  refine ia_iald rfl e1 (vp_in_nI (show i + 2 < n by omega) (by omega)) (v := .int (sc (i + 2))) (by rw [nI_clamp (by omega), g0 _ (by omega)]) ?_
  refine ia_go 1 rfl ?_
  refine ia_ldc2 rfl ?_
  refine ia_go 6 rfl ?_
  rw [show nI i + 3 = nI (i + 3) from nI_add i 3]
  refine ia_iald rfl e1 (vp_in_nI (show i + 3 < n by omega) (by omega)) (v := .int (sc (i + 3))) (by rw [nI_clamp (by omega), g0 _ (by omega)]) ?_
  refine jd_cV 117 [.long (((sc (i + 1)).toInt64 <<< ((32 : Int32).toInt64 &&& 63)) ||| ((sc (i + 2)).toInt64 &&& 4294967295)), .int (sc (i + 3))] [.int (sp_type A (((sc (i + 1)).toInt64 <<< ((32 : Int32).toInt64 &&& 63)) ||| ((sc (i + 2)).toInt64 &&& 4294967295)) (sc (i + 3))).2] 0 0 (d' := d - 1) rfl rfl rfl e117 rfl rfl (by omega) (by omega) (by omega) (rx_type R1) ?_
  rintro rv h2 ⟨rfl, R2, f2, -⟩
  refine ia_go 1 rfl ?_
  rw [if_pos (by exact rfl)]
  refine ia_go 1 rfl ?_
  dsimp only [ia_s1, ia_s2, ia_cl, ia_D, List.getElem?_cons_zero, List.getElem?_cons_succ, List.set_cons_zero, List.set_cons_succ]
  refine ia_go 1 rfl ?_
  rw [of_5, nI_add]
  exact ia_Sx.room (ih h2 _ (lw_nx J C1 f1 R2 f2 (ai_type I))) (Nat.le_refl _) (by omega) (by omega)
set_option maxRecDepth 16384 in
theorem lw_hold (hd : 38 ≤ d) (J : lwJ A n sc h) (hi : i + 5 ≤ n) (hn : n ≤ 2560) (ih : ∀ (h : ia_H) (A : aS), lwJ A n sc h → ia_Sx pg G kk_L_law d (29 * r) (11070 * r) 18 [.ref 0, .ref 64, .ref 117, .int (nI (i + 5))] [] h (fun rv h' => rv = some (.int 1))) : ia_Sx pg G kk_L_law d (29 * (r + 1)) (11070 * (r + 1)) 171 [.ref 0, .ref 64, .ref 117, .int (nI i)] [] h (fun rv h' => rv = some (.int 1)) := by
  obtain ⟨C, R, I, ⟨f, e0, g0⟩, h142⟩ := id J
  obtain ⟨fs, e64⟩ := C.c64
  refine ia_go 5 rfl ?_
  rw [show nI i + 1 = nI (i + 1) from nI_add i 1]
  refine ia_iald rfl e0 (vp_in_nI (show i + 1 < n by omega) (by omega)) (v := .int (sc (i + 1))) (by rw [nI_clamp (by omega), g0 _ (by omega)]) ?_
  refine jd_cV 64 [.int (sc (i + 1))] [] 2 484 (d' := d - 1) rfl rfl rfl e64 rfl rfl (by omega) (by omega) (by omega) (cx_hold (by omega) C) ?_
  rintro rv h1 ⟨rfl, C1, f1, -⟩
  have R1 := R.off f1 h142
  have e1 := (f1.2 0 (by omega) (fun z => by have := z.1; omega)).trans e0
  obtain ⟨fs1, e117⟩ := R1.c117
  refine ia_go 5 rfl ?_
  rw [show nI i + 1 = nI (i + 1) from nI_add i 1]
  refine ia_iald rfl e1 (vp_in_nI (show i + 1 < n by omega) (by omega)) (v := .int (sc (i + 1))) (by rw [nI_clamp (by omega), g0 _ (by omega)]) ?_
  refine jd_cV 117 [.int (sc (i + 1))] [.int (sp_hold A (sc (i + 1))).2] 0 0 (d' := d - 1) rfl rfl rfl e117 rfl rfl (by omega) (by omega) (by omega) (rx_hold (by omega) R1) ?_
  rintro rv h2 ⟨rfl, R2, f2, -⟩
  refine ia_go 1 rfl ?_
  rw [if_pos (by exact rfl)]
  refine ia_go 1 rfl ?_
  dsimp only [ia_s1, ia_s2, ia_cl, ia_D, List.getElem?_cons_zero, List.getElem?_cons_succ, List.set_cons_zero, List.set_cons_succ]
  refine ia_go 1 rfl ?_
  rw [of_5, nI_add]
  exact ia_Sx.room (ih h2 _ (lw_nx J C1 f1 R2 f2 (ai_hold I))) (Nat.le_refl _) (by omega) (by omega)
set_option maxRecDepth 16384 in
theorem lw_begin (hd : 38 ≤ d) (J : lwJ A n sc h) (hi : i + 5 ≤ n) (hn : n ≤ 2560) (ih : ∀ (h : ia_H) (A : aS), lwJ A n sc h → ia_Sx pg G kk_L_law d (29 * r) (11070 * r) 18 [.ref 0, .ref 64, .ref 117, .int (nI (i + 5))] [] h (fun rv h' => rv = some (.int 1))) : ia_Sx pg G kk_L_law d (29 * (r + 1)) (11070 * (r + 1)) 194 [.ref 0, .ref 64, .ref 117, .int (nI i)] [] h (fun rv h' => rv = some (.int 1)) := by
  obtain ⟨C, R, I, ⟨f, e0, g0⟩, h142⟩ := id J
  obtain ⟨fs, e64⟩ := C.c64
  refine ia_go 5 rfl ?_
  rw [show nI i + 1 = nI (i + 1) from nI_add i 1]
  refine ia_iald rfl e0 (vp_in_nI (show i + 1 < n by omega) (by omega)) (v := .int (sc (i + 1))) (by rw [nI_clamp (by omega), g0 _ (by omega)]) ?_
  refine jd_cV 64 [.int (sc (i + 1))] [] 1 6 (d' := d - 1) rfl rfl rfl e64 rfl rfl (by omega) (by omega) (by omega) (cx_begin (by omega) C) ?_
  rintro rv h1 ⟨rfl, C1, f1, -⟩
  have R1 := R.off f1 h142
  have e1 := (f1.2 0 (by omega) (fun z => by have := z.1; omega)).trans e0
  obtain ⟨fs1, e117⟩ := R1.c117
  refine ia_go 5 rfl ?_
  rw [show nI i + 1 = nI (i + 1) from nI_add i 1]
  refine ia_iald rfl e1 (vp_in_nI (show i + 1 < n by omega) (by omega)) (v := .int (sc (i + 1))) (by rw [nI_clamp (by omega), g0 _ (by omega)]) ?_
  refine jd_cV 117 [.int (sc (i + 1))] [.int (sp_begin A (sc (i + 1))).2] 0 0 (d' := d - 1) rfl rfl rfl e117 rfl rfl (by omega) (by omega) (by omega) (rx_begin (by omega) R1) ?_
  rintro rv h2 ⟨rfl, R2, f2, -⟩
  refine ia_go 1 rfl ?_
  rw [if_pos (by exact rfl)]
  refine ia_go 1 rfl ?_
  dsimp only [ia_s1, ia_s2, ia_cl, ia_D, List.getElem?_cons_zero, List.getElem?_cons_succ, List.set_cons_zero, List.set_cons_succ]
  refine ia_go 1 rfl ?_
  rw [of_5, nI_add]
  exact ia_Sx.room (ih h2 _ (lw_nx J C1 f1 R2 f2 (ai_begin I))) (Nat.le_refl _) (by omega) (by omega)
set_option maxRecDepth 16384 in
theorem lw_refine (hd : 38 ≤ d) (J : lwJ A n sc h) (hi : i + 5 ≤ n) (hn : n ≤ 2560) (ih : ∀ (h : ia_H) (A : aS), lwJ A n sc h → ia_Sx pg G kk_L_law d (29 * r) (11070 * r) 18 [.ref 0, .ref 64, .ref 117, .int (nI (i + 5))] [] h (fun rv h' => rv = some (.int 1))) : ia_Sx pg G kk_L_law d (29 * (r + 1)) (11070 * (r + 1)) 217 [.ref 0, .ref 64, .ref 117, .int (nI i)] [] h (fun rv h' => rv = some (.int 1)) := by
  obtain ⟨C, R, I, ⟨f, e0, g0⟩, h142⟩ := id J
  obtain ⟨fs, e64⟩ := C.c64
  refine ia_go 5 rfl ?_
  rw [show nI i + 1 = nI (i + 1) from nI_add i 1]
  refine ia_iald rfl e0 (vp_in_nI (show i + 1 < n by omega) (by omega)) (v := .int (sc (i + 1))) (by rw [nI_clamp (by omega), g0 _ (by omega)]) ?_
  refine ia_go 4 rfl ?_
  rw [show nI i + 2 = nI (i + 2) from nI_add i 2]
  refine ia_iald rfl e0 (vp_in_nI (show i + 2 < n by omega) (by omega)) (v := .int (sc (i + 2))) (by rw [nI_clamp (by omega), g0 _ (by omega)]) ?_
  refine ia_go 4 rfl ?_
  rw [show nI i + 3 = nI (i + 3) from nI_add i 3]
  refine ia_iald rfl e0 (vp_in_nI (show i + 3 < n by omega) (by omega)) (v := .int (sc (i + 3))) (by rw [nI_clamp (by omega), g0 _ (by omega)]) ?_
  refine jd_cV 64 [.int (sc (i + 1)), .int (sc (i + 2)), .int (sc (i + 3))] [] 29 11070 (d' := d - 1) rfl rfl rfl e64 rfl rfl (by omega) (by omega) (by omega) (cx_refine (by omega) C I) ?_
  rintro rv h1 ⟨rfl, C1, f1, -⟩
  have R1 := R.off f1 h142
  have e1 := (f1.2 0 (by omega) (fun z => by have := z.1; omega)).trans e0
  obtain ⟨fs1, e117⟩ := R1.c117
  refine ia_go 5 rfl ?_
  rw [show nI i + 1 = nI (i + 1) from nI_add i 1]
  refine ia_iald rfl e1 (vp_in_nI (show i + 1 < n by omega) (by omega)) (v := .int (sc (i + 1))) (by rw [nI_clamp (by omega), g0 _ (by omega)]) ?_
  refine ia_go 4 rfl ?_
  rw [show nI i + 2 = nI (i + 2) from nI_add i 2]
  refine ia_iald rfl e1 (vp_in_nI (show i + 2 < n by omega) (by omega)) (v := .int (sc (i + 2))) (by rw [nI_clamp (by omega), g0 _ (by omega)]) ?_
  refine ia_go 4 rfl ?_
  rw [show nI i + 3 = nI (i + 3) from nI_add i 3]
  refine ia_iald rfl e1 (vp_in_nI (show i + 3 < n by omega) (by omega)) (v := .int (sc (i + 3))) (by rw [nI_clamp (by omega), g0 _ (by omega)]) ?_
  refine jd_cV 117 [.int (sc (i + 1)), .int (sc (i + 2)), .int (sc (i + 3))] [.int (sp_refine A (sc (i + 1)) (sc (i + 2)) (sc (i + 3))).2] 0 0 (d' := d - 1) rfl rfl rfl e117 rfl rfl (by omega) (by omega) (by omega) (rx_refine (by omega) R1 I) ?_
  rintro rv h2 ⟨rfl, R2, f2, -⟩
  refine ia_go 1 rfl ?_
  rw [if_pos (by exact rfl)]
  refine ia_go 1 rfl ?_
  dsimp only [ia_s1, ia_s2, ia_cl, ia_D, List.getElem?_cons_zero, List.getElem?_cons_succ, List.set_cons_zero, List.set_cons_succ]
  refine ia_go 1 rfl ?_
  rw [of_5, nI_add]
  exact ia_Sx.room (ih h2 _ (lw_nx J C1 f1 R2 f2 (ai_refine I))) (Nat.le_refl _) (by omega) (by omega)
set_option maxRecDepth 16384 in
theorem lw_prove (hd : 38 ≤ d) (J : lwJ A n sc h) (hi : i + 5 ≤ n) (hn : n ≤ 2560) (ih : ∀ (h : ia_H) (A : aS), lwJ A n sc h → ia_Sx pg G kk_L_law d (29 * r) (11070 * r) 18 [.ref 0, .ref 64, .ref 117, .int (nI (i + 5))] [] h (fun rv h' => rv = some (.int 1))) : ia_Sx pg G kk_L_law d (29 * (r + 1)) (11070 * (r + 1)) 260 [.ref 0, .ref 64, .ref 117, .int (nI i)] [] h (fun rv h' => rv = some (.int 1)) := by
  obtain ⟨C, R, I, ⟨f, e0, g0⟩, h142⟩ := id J
  obtain ⟨fs, e64⟩ := C.c64
  refine ia_go 5 rfl ?_
  rw [show nI i + 1 = nI (i + 1) from nI_add i 1]
  refine ia_iald rfl e0 (vp_in_nI (show i + 1 < n by omega) (by omega)) (v := .int (sc (i + 1))) (by rw [nI_clamp (by omega), g0 _ (by omega)]) ?_
  refine jd_cV 64 [.int (sc (i + 1))] [] 0 0 (d' := d - 1) rfl rfl rfl e64 rfl rfl (by omega) (by omega) (by omega) (cx_prove (by omega) C I) ?_
  rintro rv h1 ⟨rfl, C1, f1, -⟩
  have R1 := R.off f1 h142
  have e1 := (f1.2 0 (by omega) (fun z => by have := z.1; omega)).trans e0
  obtain ⟨fs1, e117⟩ := R1.c117
  refine ia_go 5 rfl ?_
  rw [show nI i + 1 = nI (i + 1) from nI_add i 1]
  refine ia_iald rfl e1 (vp_in_nI (show i + 1 < n by omega) (by omega)) (v := .int (sc (i + 1))) (by rw [nI_clamp (by omega), g0 _ (by omega)]) ?_
  refine jd_cV 117 [.int (sc (i + 1))] [.int (sp_prove A (sc (i + 1))).2] 0 0 (d' := d - 1) rfl rfl rfl e117 rfl rfl (by omega) (by omega) (by omega) (rx_prove (by omega) R1 I) ?_
  rintro rv h2 ⟨rfl, R2, f2, -⟩
  refine ia_go 1 rfl ?_
  rw [if_pos (by exact rfl)]
  refine ia_go 1 rfl ?_
  dsimp only [ia_s1, ia_s2, ia_cl, ia_D, List.getElem?_cons_zero, List.getElem?_cons_succ, List.set_cons_zero, List.set_cons_succ]
  refine ia_go 1 rfl ?_
  rw [of_5, nI_add]
  exact ia_Sx.room (ih h2 _ (lw_nx J C1 f1 R2 f2 (ai_prove I))) (Nat.le_refl _) (by omega) (by omega)
set_option maxRecDepth 16384 in
theorem lw_refuting (hd : 38 ≤ d) (J : lwJ A n sc h) (hi : i + 5 ≤ n) (hn : n ≤ 2560) (ih : ∀ (h : ia_H) (A : aS), lwJ A n sc h → ia_Sx pg G kk_L_law d (29 * r) (11070 * r) 18 [.ref 0, .ref 64, .ref 117, .int (nI (i + 5))] [] h (fun rv h' => rv = some (.int 1))) : ia_Sx pg G kk_L_law d (29 * (r + 1)) (11070 * (r + 1)) 283 [.ref 0, .ref 64, .ref 117, .int (nI i)] [] h (fun rv h' => rv = some (.int 1)) := by
  obtain ⟨C, R, I, ⟨f, e0, g0⟩, h142⟩ := id J
  obtain ⟨fs, e64⟩ := C.c64
  refine ia_go 5 rfl ?_
  rw [show nI i + 1 = nI (i + 1) from nI_add i 1]
  refine ia_iald rfl e0 (vp_in_nI (show i + 1 < n by omega) (by omega)) (v := .int (sc (i + 1))) (by rw [nI_clamp (by omega), g0 _ (by omega)]) ?_
  refine jd_cV 64 [.int (sc (i + 1))] [] 0 0 (d' := d - 1) rfl rfl rfl e64 rfl rfl (by omega) (by omega) (by omega) (cx_refuting C) ?_
  rintro rv h1 ⟨rfl, C1, f1, -⟩
  have R1 := R.off f1 h142
  have e1 := (f1.2 0 (by omega) (fun z => by have := z.1; omega)).trans e0
  obtain ⟨fs1, e117⟩ := R1.c117
  refine ia_go 5 rfl ?_
  rw [show nI i + 1 = nI (i + 1) from nI_add i 1]
  refine ia_iald rfl e1 (vp_in_nI (show i + 1 < n by omega) (by omega)) (v := .int (sc (i + 1))) (by rw [nI_clamp (by omega), g0 _ (by omega)]) ?_
  refine jd_cV 117 [.int (sc (i + 1))] [.int (sp_refuting A (sc (i + 1))).2] 0 0 (d' := d - 1) rfl rfl rfl e117 rfl rfl (by omega) (by omega) (by omega) (rx_refuting R1) ?_
  rintro rv h2 ⟨rfl, R2, f2, -⟩
  refine ia_go 1 rfl ?_
  rw [if_pos (by exact rfl)]
  refine ia_go 1 rfl ?_
  dsimp only [ia_s1, ia_s2, ia_cl, ia_D, List.getElem?_cons_zero, List.getElem?_cons_succ, List.set_cons_zero, List.set_cons_succ]
  refine ia_go 1 rfl ?_
  rw [of_5, nI_add]
  exact ia_Sx.room (ih h2 _ (lw_nx J C1 f1 R2 f2 (I))) (Nat.le_refl _) (by omega) (by omega)
set_option maxRecDepth 16384 in
theorem lw_open (hd : 38 ≤ d) (J : lwJ A n sc h) (hi : i + 5 ≤ n) (hn : n ≤ 2560) (ih : ∀ (h : ia_H) (A : aS), lwJ A n sc h → ia_Sx pg G kk_L_law d (29 * r) (11070 * r) 18 [.ref 0, .ref 64, .ref 117, .int (nI (i + 5))] [] h (fun rv h' => rv = some (.int 1))) : ia_Sx pg G kk_L_law d (29 * (r + 1)) (11070 * (r + 1)) 306 [.ref 0, .ref 64, .ref 117, .int (nI i)] [] h (fun rv h' => rv = some (.int 1)) := by
  obtain ⟨C, R, I, ⟨f, e0, g0⟩, h142⟩ := id J
  obtain ⟨fs, e64⟩ := C.c64
  refine ia_go 1 rfl ?_
  refine jd_cV 64 [] [] 0 0 (d' := d - 1) rfl rfl rfl e64 rfl rfl (by omega) (by omega) (by omega) (cx_open (by omega) C) ?_
  rintro rv h1 ⟨rfl, C1, f1, -⟩
  have R1 := R.off f1 h142
  have e1 := (f1.2 0 (by omega) (fun z => by have := z.1; omega)).trans e0
  obtain ⟨fs1, e117⟩ := R1.c117
  refine ia_go 1 rfl ?_
  refine jd_cV 117 [] [.int (sp_open A).2] 0 0 (d' := d - 1) rfl rfl rfl e117 rfl rfl (by omega) (by omega) (by omega) (rx_open (by omega) R1 I) ?_
  rintro rv h2 ⟨rfl, R2, f2, -⟩
  refine ia_go 1 rfl ?_
  rw [if_pos (by exact rfl)]
  refine ia_go 1 rfl ?_
  dsimp only [ia_s1, ia_s2, ia_cl, ia_D, List.getElem?_cons_zero, List.getElem?_cons_succ, List.set_cons_zero, List.set_cons_succ]
  refine ia_go 1 rfl ?_
  rw [of_5, nI_add]
  exact ia_Sx.room (ih h2 _ (lw_nx J C1 f1 R2 f2 (I))) (Nat.le_refl _) (by omega) (by omega)
set_option maxRecDepth 16384 in
theorem lw_first (hd : 38 ≤ d) (J : lwJ A n sc h) (hi : i + 5 ≤ n) (hn : n ≤ 2560) (ih : ∀ (h : ia_H) (A : aS), lwJ A n sc h → ia_Sx pg G kk_L_law d (29 * r) (11070 * r) 18 [.ref 0, .ref 64, .ref 117, .int (nI (i + 5))] [] h (fun rv h' => rv = some (.int 1))) : ia_Sx pg G kk_L_law d (29 * (r + 1)) (11070 * (r + 1)) 319 [.ref 0, .ref 64, .ref 117, .int (nI i)] [] h (fun rv h' => rv = some (.int 1)) := by
  obtain ⟨C, R, I, ⟨f, e0, g0⟩, h142⟩ := id J
  obtain ⟨fs, e64⟩ := C.c64
  refine ia_go 1 rfl ?_
  refine jd_cV 64 [] [] 0 0 (d' := d - 1) rfl rfl rfl e64 rfl rfl (by omega) (by omega) (by omega) (cx_first (by omega) C) ?_
  rintro rv h1 ⟨rfl, C1, f1, -⟩
  have R1 := R.off f1 h142
  have e1 := (f1.2 0 (by omega) (fun z => by have := z.1; omega)).trans e0
  obtain ⟨fs1, e117⟩ := R1.c117
  refine ia_go 1 rfl ?_
  refine jd_cV 117 [] [.int (sp_first A).2] 0 0 (d' := d - 1) rfl rfl rfl e117 rfl rfl (by omega) (by omega) (by omega) (rx_first (by omega) R1 I) ?_
  rintro rv h2 ⟨rfl, R2, f2, -⟩
  refine ia_go 1 rfl ?_
  rw [if_pos (by exact rfl)]
  refine ia_go 1 rfl ?_
  dsimp only [ia_s1, ia_s2, ia_cl, ia_D, List.getElem?_cons_zero, List.getElem?_cons_succ, List.set_cons_zero, List.set_cons_succ]
  refine ia_go 1 rfl ?_
  rw [of_5, nI_add]
  exact ia_Sx.room (ih h2 _ (lw_nx J C1 f1 R2 f2 (I))) (Nat.le_refl _) (by omega) (by omega)
set_option maxRecDepth 16384 in
theorem lw_prune (hd : 38 ≤ d) (J : lwJ A n sc h) (hi : i + 5 ≤ n) (hn : n ≤ 2560) (ih : ∀ (h : ia_H) (A : aS), lwJ A n sc h → ia_Sx pg G kk_L_law d (29 * r) (11070 * r) 18 [.ref 0, .ref 64, .ref 117, .int (nI (i + 5))] [] h (fun rv h' => rv = some (.int 1))) : ia_Sx pg G kk_L_law d (29 * (r + 1)) (11070 * (r + 1)) 332 [.ref 0, .ref 64, .ref 117, .int (nI i)] [] h (fun rv h' => rv = some (.int 1)) := by
  obtain ⟨C, R, I, ⟨f, e0, g0⟩, h142⟩ := id J
  obtain ⟨fs, e64⟩ := C.c64
  refine ia_go 5 rfl ?_
  rw [show nI i + 1 = nI (i + 1) from nI_add i 1]
  refine ia_iald rfl e0 (vp_in_nI (show i + 1 < n by omega) (by omega)) (v := .int (sc (i + 1))) (by rw [nI_clamp (by omega), g0 _ (by omega)]) ?_
  refine jd_cV 64 [.int (sc (i + 1))] [] 0 0 (d' := d - 1) rfl rfl rfl e64 rfl rfl (by omega) (by omega) (by omega) (cx_prune (by omega) C I) ?_
  rintro rv h1 ⟨rfl, C1, f1, -⟩
  have R1 := R.off f1 h142
  have e1 := (f1.2 0 (by omega) (fun z => by have := z.1; omega)).trans e0
  obtain ⟨fs1, e117⟩ := R1.c117
  refine ia_go 5 rfl ?_
  rw [show nI i + 1 = nI (i + 1) from nI_add i 1]
  refine ia_iald rfl e1 (vp_in_nI (show i + 1 < n by omega) (by omega)) (v := .int (sc (i + 1))) (by rw [nI_clamp (by omega), g0 _ (by omega)]) ?_
  refine jd_cV 117 [.int (sc (i + 1))] [.int (sp_prune A (sc (i + 1))).2] 0 0 (d' := d - 1) rfl rfl rfl e117 rfl rfl (by omega) (by omega) (by omega) (rx_prune (by omega) R1 I) ?_
  rintro rv h2 ⟨rfl, R2, f2, -⟩
  refine ia_go 1 rfl ?_
  rw [if_pos (by exact rfl)]
  refine ia_go 1 rfl ?_
  dsimp only [ia_s1, ia_s2, ia_cl, ia_D, List.getElem?_cons_zero, List.getElem?_cons_succ, List.set_cons_zero, List.set_cons_succ]
  refine ia_go 1 rfl ?_
  rw [of_5, nI_add]
  exact ia_Sx.room (ih h2 _ (lw_nx J C1 f1 R2 f2 (ai_prune I))) (Nat.le_refl _) (by omega) (by omega)
set_option maxRecDepth 16384 in
theorem lw_node (hd : 38 ≤ d) (J : lwJ A n sc h) (hi : i + 5 ≤ n) (hn : n ≤ 2560) (ih : ∀ (h : ia_H) (A : aS), lwJ A n sc h → ia_Sx pg G kk_L_law d (29 * r) (11070 * r) 18 [.ref 0, .ref 64, .ref 117, .int (nI (i + 5))] [] h (fun rv h' => rv = some (.int 1))) : ia_Sx pg G kk_L_law d (29 * (r + 1)) (11070 * (r + 1)) 355 [.ref 0, .ref 64, .ref 117, .int (nI i)] [] h (fun rv h' => rv = some (.int 1)) := by
  obtain ⟨C, R, I, ⟨f, e0, g0⟩, h142⟩ := id J
  obtain ⟨fs, e64⟩ := C.c64
  refine ia_go 5 rfl ?_
  rw [show nI i + 1 = nI (i + 1) from nI_add i 1]
  refine ia_iald rfl e0 (vp_in_nI (show i + 1 < n by omega) (by omega)) (v := .int (sc (i + 1))) (by rw [nI_clamp (by omega), g0 _ (by omega)]) ?_
  refine ia_go 4 rfl ?_
  rw [show nI i + 2 = nI (i + 2) from nI_add i 2]
  refine ia_iald rfl e0 (vp_in_nI (show i + 2 < n by omega) (by omega)) (v := .int (sc (i + 2))) (by rw [nI_clamp (by omega), g0 _ (by omega)]) ?_
  refine jd_cV 64 [.int (sc (i + 1)), .int (sc (i + 2))] [] 0 0 (d' := d - 1) rfl rfl rfl e64 rfl rfl (by omega) (by omega) (by omega) (cx_node (by omega) C I) ?_
  rintro rv h1 ⟨rfl, C1, f1, -⟩
  have R1 := R.off f1 h142
  have e1 := (f1.2 0 (by omega) (fun z => by have := z.1; omega)).trans e0
  obtain ⟨fs1, e117⟩ := R1.c117
  refine ia_go 5 rfl ?_
  rw [show nI i + 1 = nI (i + 1) from nI_add i 1]
  refine ia_iald rfl e1 (vp_in_nI (show i + 1 < n by omega) (by omega)) (v := .int (sc (i + 1))) (by rw [nI_clamp (by omega), g0 _ (by omega)]) ?_
  refine ia_go 4 rfl ?_
  rw [show nI i + 2 = nI (i + 2) from nI_add i 2]
  refine ia_iald rfl e1 (vp_in_nI (show i + 2 < n by omega) (by omega)) (v := .int (sc (i + 2))) (by rw [nI_clamp (by omega), g0 _ (by omega)]) ?_
  refine jd_cV 117 [.int (sc (i + 1)), .int (sc (i + 2))] [.int (sp_node A (sc (i + 1)) (sc (i + 2))).2] 0 0 (d' := d - 1) rfl rfl rfl e117 rfl rfl (by omega) (by omega) (by omega) (rx_node (by omega) R1 I) ?_
  rintro rv h2 ⟨rfl, R2, f2, -⟩
  refine ia_go 1 rfl ?_
  rw [if_pos (by exact rfl)]
  refine ia_go 1 rfl ?_
  dsimp only [ia_s1, ia_s2, ia_cl, ia_D, List.getElem?_cons_zero, List.getElem?_cons_succ, List.set_cons_zero, List.set_cons_succ]
  refine ia_go 1 rfl ?_
  rw [of_5, nI_add]
  exact ia_Sx.room (ih h2 _ (lw_nx J C1 f1 R2 f2 (I))) (Nat.le_refl _) (by omega) (by omega)
set_option maxRecDepth 16384 in
theorem lw_text (hd : 38 ≤ d) (J : lwJ A n sc h) (hi : i + 5 ≤ n) (hn : n ≤ 2560) (ih : ∀ (h : ia_H) (A : aS), lwJ A n sc h → ia_Sx pg G kk_L_law d (29 * r) (11070 * r) 18 [.ref 0, .ref 64, .ref 117, .int (nI (i + 5))] [] h (fun rv h' => rv = some (.int 1))) : ia_Sx pg G kk_L_law d (29 * (r + 1)) (11070 * (r + 1)) 388 [.ref 0, .ref 64, .ref 117, .int (nI i)] [] h (fun rv h' => rv = some (.int 1)) := by
  obtain ⟨C, R, I, ⟨f, e0, g0⟩, h142⟩ := id J
  obtain ⟨fs, e64⟩ := C.c64
  refine ia_go 5 rfl ?_
  rw [show nI i + 1 = nI (i + 1) from nI_add i 1]
  refine ia_iald rfl e0 (vp_in_nI (show i + 1 < n by omega) (by omega)) (v := .int (sc (i + 1))) (by rw [nI_clamp (by omega), g0 _ (by omega)]) ?_
  refine ia_go 4 rfl ?_
  rw [show nI i + 2 = nI (i + 2) from nI_add i 2]
  refine ia_iald rfl e0 (vp_in_nI (show i + 2 < n by omega) (by omega)) (v := .int (sc (i + 2))) (by rw [nI_clamp (by omega), g0 _ (by omega)]) ?_
  refine ia_go 4 rfl ?_
  rw [show nI i + 3 = nI (i + 3) from nI_add i 3]
  refine ia_iald rfl e0 (vp_in_nI (show i + 3 < n by omega) (by omega)) (v := .int (sc (i + 3))) (by rw [nI_clamp (by omega), g0 _ (by omega)]) ?_
  refine jd_cV 64 [.int (sc (i + 1)), .int (sc (i + 2)), .int (sc (i + 3))] [] 0 0 (d' := d - 1) rfl rfl rfl e64 rfl rfl (by omega) (by omega) (by omega) (cx_text (by omega) C) ?_
  rintro rv h1 ⟨rfl, C1, f1, -⟩
  have R1 := R.off f1 h142
  have e1 := (f1.2 0 (by omega) (fun z => by have := z.1; omega)).trans e0
  obtain ⟨fs1, e117⟩ := R1.c117
  refine ia_go 5 rfl ?_
  rw [show nI i + 1 = nI (i + 1) from nI_add i 1]
  refine ia_iald rfl e1 (vp_in_nI (show i + 1 < n by omega) (by omega)) (v := .int (sc (i + 1))) (by rw [nI_clamp (by omega), g0 _ (by omega)]) ?_
  refine ia_go 4 rfl ?_
  rw [show nI i + 2 = nI (i + 2) from nI_add i 2]
  refine ia_iald rfl e1 (vp_in_nI (show i + 2 < n by omega) (by omega)) (v := .int (sc (i + 2))) (by rw [nI_clamp (by omega), g0 _ (by omega)]) ?_
  refine ia_go 4 rfl ?_
  rw [show nI i + 3 = nI (i + 3) from nI_add i 3]
  refine ia_iald rfl e1 (vp_in_nI (show i + 3 < n by omega) (by omega)) (v := .int (sc (i + 3))) (by rw [nI_clamp (by omega), g0 _ (by omega)]) ?_
  refine jd_cV 117 [.int (sc (i + 1)), .int (sc (i + 2)), .int (sc (i + 3))] [.int (sp_text A (sc (i + 1)) (sc (i + 2)) (sc (i + 3))).2] 0 0 (d' := d - 1) rfl rfl rfl e117 rfl rfl (by omega) (by omega) (by omega) (rx_text (by omega) R1) ?_
  rintro rv h2 ⟨rfl, R2, f2, -⟩
  refine ia_go 1 rfl ?_
  rw [if_pos (by exact rfl)]
  refine ia_go 1 rfl ?_
  dsimp only [ia_s1, ia_s2, ia_cl, ia_D, List.getElem?_cons_zero, List.getElem?_cons_succ, List.set_cons_zero, List.set_cons_succ]
  refine ia_go 1 rfl ?_
  rw [of_5, nI_add]
  exact ia_Sx.room (ih h2 _ (lw_nx J C1 f1 R2 f2 (I))) (Nat.le_refl _) (by omega) (by omega)
set_option maxRecDepth 16384 in
theorem lw_program (hd : 38 ≤ d) (J : lwJ A n sc h) (hi : i + 5 ≤ n) (hn : n ≤ 2560) (ih : ∀ (h : ia_H) (A : aS), lwJ A n sc h → ia_Sx pg G kk_L_law d (29 * r) (11070 * r) 18 [.ref 0, .ref 64, .ref 117, .int (nI (i + 5))] [] h (fun rv h' => rv = some (.int 1))) : ia_Sx pg G kk_L_law d (29 * (r + 1)) (11070 * (r + 1)) 431 [.ref 0, .ref 64, .ref 117, .int (nI i)] [] h (fun rv h' => rv = some (.int 1)) := by
  obtain ⟨C, R, I, ⟨f, e0, g0⟩, h142⟩ := id J
  obtain ⟨fs, e64⟩ := C.c64
  refine ia_go 1 rfl ?_
  refine jd_cV 64 [] [] 0 0 (d' := d - 1) rfl rfl rfl e64 rfl rfl (by omega) (by omega) (by omega) (cx_program (by omega) C I) ?_
  rintro rv h1 ⟨rfl, C1, f1, -⟩
  have R1 := R.off f1 h142
  have e1 := (f1.2 0 (by omega) (fun z => by have := z.1; omega)).trans e0
  obtain ⟨fs1, e117⟩ := R1.c117
  refine ia_go 1 rfl ?_
  refine jd_cV 117 [] [.int (sp_program A).2] 0 0 (d' := d - 1) rfl rfl rfl e117 rfl rfl (by omega) (by omega) (by omega) (rx_program (by omega) R1 I) ?_
  rintro rv h2 ⟨rfl, R2, f2, -⟩
  refine ia_go 1 rfl ?_
  rw [if_pos (by exact rfl)]
  refine ia_go 1 rfl ?_
  dsimp only [ia_s1, ia_s2, ia_cl, ia_D, List.getElem?_cons_zero, List.getElem?_cons_succ, List.set_cons_zero, List.set_cons_succ]
  refine ia_go 1 rfl ?_
  rw [of_5, nI_add]
  exact ia_Sx.room (ih h2 _ (lw_nx J C1 f1 R2 f2 (I))) (Nat.le_refl _) (by omega) (by omega)
set_option maxRecDepth 16384 in
theorem lw_instruction (hd : 38 ≤ d) (J : lwJ A n sc h) (hi : i + 5 ≤ n) (hn : n ≤ 2560) (ih : ∀ (h : ia_H) (A : aS), lwJ A n sc h → ia_Sx pg G kk_L_law d (29 * r) (11070 * r) 18 [.ref 0, .ref 64, .ref 117, .int (nI (i + 5))] [] h (fun rv h' => rv = some (.int 1))) : ia_Sx pg G kk_L_law d (29 * (r + 1)) (11070 * (r + 1)) 444 [.ref 0, .ref 64, .ref 117, .int (nI i)] [] h (fun rv h' => rv = some (.int 1)) := by
  obtain ⟨C, R, I, ⟨f, e0, g0⟩, h142⟩ := id J
  obtain ⟨fs, e64⟩ := C.c64
  refine ia_go 5 rfl ?_
  rw [show nI i + 1 = nI (i + 1) from nI_add i 1]
  refine ia_iald rfl e0 (vp_in_nI (show i + 1 < n by omega) (by omega)) (v := .int (sc (i + 1))) (by rw [nI_clamp (by omega), g0 _ (by omega)]) ?_
  refine ia_go 4 rfl ?_
  rw [show nI i + 2 = nI (i + 2) from nI_add i 2]
  refine ia_iald rfl e0 (vp_in_nI (show i + 2 < n by omega) (by omega)) (v := .int (sc (i + 2))) (by rw [nI_clamp (by omega), g0 _ (by omega)]) ?_
  refine jd_cV 64 [.int (sc (i + 1)), .int (sc (i + 2))] [] 0 0 (d' := d - 1) rfl rfl rfl e64 rfl rfl (by omega) (by omega) (by omega) (cx_instruction (by omega) C I) ?_
  rintro rv h1 ⟨rfl, C1, f1, -⟩
  have R1 := R.off f1 h142
  have e1 := (f1.2 0 (by omega) (fun z => by have := z.1; omega)).trans e0
  obtain ⟨fs1, e117⟩ := R1.c117
  refine ia_go 5 rfl ?_
  rw [show nI i + 1 = nI (i + 1) from nI_add i 1]
  refine ia_iald rfl e1 (vp_in_nI (show i + 1 < n by omega) (by omega)) (v := .int (sc (i + 1))) (by rw [nI_clamp (by omega), g0 _ (by omega)]) ?_
  refine ia_go 4 rfl ?_
  rw [show nI i + 2 = nI (i + 2) from nI_add i 2]
  refine ia_iald rfl e1 (vp_in_nI (show i + 2 < n by omega) (by omega)) (v := .int (sc (i + 2))) (by rw [nI_clamp (by omega), g0 _ (by omega)]) ?_
  refine jd_cV 117 [.int (sc (i + 1)), .int (sc (i + 2))] [.int (sp_instruction A (sc (i + 1)) (sc (i + 2))).2] 0 0 (d' := d - 1) rfl rfl rfl e117 rfl rfl (by omega) (by omega) (by omega) (rx_instruction (by omega) R1 I) ?_
  rintro rv h2 ⟨rfl, R2, f2, -⟩
  refine ia_go 1 rfl ?_
  rw [if_pos (by exact rfl)]
  refine ia_go 1 rfl ?_
  dsimp only [ia_s1, ia_s2, ia_cl, ia_D, List.getElem?_cons_zero, List.getElem?_cons_succ, List.set_cons_zero, List.set_cons_succ]
  refine ia_go 1 rfl ?_
  rw [of_5, nI_add]
  exact ia_Sx.room (ih h2 _ (lw_nx J C1 f1 R2 f2 (I))) (Nat.le_refl _) (by omega) (by omega)
set_option maxRecDepth 16384 in
theorem lw_run (hd : 38 ≤ d) (J : lwJ A n sc h) (hi : i + 5 ≤ n) (hn : n ≤ 2560) (ih : ∀ (h : ia_H) (A : aS), lwJ A n sc h → ia_Sx pg G kk_L_law d (29 * r) (11070 * r) 18 [.ref 0, .ref 64, .ref 117, .int (nI (i + 5))] [] h (fun rv h' => rv = some (.int 1))) : ia_Sx pg G kk_L_law d (29 * (r + 1)) (11070 * (r + 1)) 477 [.ref 0, .ref 64, .ref 117, .int (nI i)] [] h (fun rv h' => rv = some (.int 1)) := by
  obtain ⟨C, R, I, ⟨f, e0, g0⟩, h142⟩ := id J
  obtain ⟨fs, e64⟩ := C.c64
  refine ia_go 5 rfl ?_
  rw [show nI i + 1 = nI (i + 1) from nI_add i 1]
  refine ia_iald rfl e0 (vp_in_nI (show i + 1 < n by omega) (by omega)) (v := .int (sc (i + 1))) (by rw [nI_clamp (by omega), g0 _ (by omega)]) ?_
  refine ia_go 4 rfl ?_
  rw [show nI i + 2 = nI (i + 2) from nI_add i 2]
  refine ia_iald rfl e0 (vp_in_nI (show i + 2 < n by omega) (by omega)) (v := .int (sc (i + 2))) (by rw [nI_clamp (by omega), g0 _ (by omega)]) ?_
  refine ia_go 4 rfl ?_
  rw [show nI i + 3 = nI (i + 3) from nI_add i 3]
  refine ia_iald rfl e0 (vp_in_nI (show i + 3 < n by omega) (by omega)) (v := .int (sc (i + 3))) (by rw [nI_clamp (by omega), g0 _ (by omega)]) ?_
  refine ia_go 4 rfl ?_
  rw [show nI i + 4 = nI (i + 4) from nI_add i 4]
  refine ia_iald rfl e0 (vp_in_nI (show i + 4 < n by omega) (by omega)) (v := .int (sc (i + 4))) (by rw [nI_clamp (by omega), g0 _ (by omega)]) ?_
  refine jd_cV 64 [.int (sc (i + 1)), .int (sc (i + 2)), .int (sc (i + 3)), .int (sc (i + 4))] [] 0 0 (d' := d - 1) rfl rfl rfl e64 rfl rfl (by omega) (by omega) (by omega) (cx_run (by omega) C I) ?_
  rintro rv h1 ⟨rfl, C1, f1, -⟩
  have R1 := R.off f1 h142
  have e1 := (f1.2 0 (by omega) (fun z => by have := z.1; omega)).trans e0
  obtain ⟨fs1, e117⟩ := R1.c117
  refine ia_go 5 rfl ?_
  rw [show nI i + 1 = nI (i + 1) from nI_add i 1]
  refine ia_iald rfl e1 (vp_in_nI (show i + 1 < n by omega) (by omega)) (v := .int (sc (i + 1))) (by rw [nI_clamp (by omega), g0 _ (by omega)]) ?_
  refine ia_go 4 rfl ?_
  rw [show nI i + 2 = nI (i + 2) from nI_add i 2]
  refine ia_iald rfl e1 (vp_in_nI (show i + 2 < n by omega) (by omega)) (v := .int (sc (i + 2))) (by rw [nI_clamp (by omega), g0 _ (by omega)]) ?_
  refine ia_go 4 rfl ?_
  rw [show nI i + 3 = nI (i + 3) from nI_add i 3]
  refine ia_iald rfl e1 (vp_in_nI (show i + 3 < n by omega) (by omega)) (v := .int (sc (i + 3))) (by rw [nI_clamp (by omega), g0 _ (by omega)]) ?_
  refine ia_go 4 rfl ?_
  rw [show nI i + 4 = nI (i + 4) from nI_add i 4]
  refine ia_iald rfl e1 (vp_in_nI (show i + 4 < n by omega) (by omega)) (v := .int (sc (i + 4))) (by rw [nI_clamp (by omega), g0 _ (by omega)]) ?_
  refine jd_cV 117 [.int (sc (i + 1)), .int (sc (i + 2)), .int (sc (i + 3)), .int (sc (i + 4))] [.int (sp_run A (sc (i + 1)) (sc (i + 2)) (sc (i + 3)) (sc (i + 4))).2] 0 0 (d' := d - 1) rfl rfl rfl e117 rfl rfl (by omega) (by omega) (by omega) (rx_run (by omega) R1 I) ?_
  rintro rv h2 ⟨rfl, R2, f2, -⟩
  refine ia_go 1 rfl ?_
  rw [if_pos (by exact rfl)]
  refine ia_go 1 rfl ?_
  dsimp only [ia_s1, ia_s2, ia_cl, ia_D, List.getElem?_cons_zero, List.getElem?_cons_succ, List.set_cons_zero, List.set_cons_succ]
  refine ia_go 1 rfl ?_
  rw [of_5, nI_add]
  exact ia_Sx.room (ih h2 _ (lw_nx J C1 f1 R2 f2 (ai_run I))) (Nat.le_refl _) (by omega) (by omega)
set_option maxRecDepth 16384 in
theorem lw_after (hd : 38 ≤ d) (J : lwJ A n sc h) (hi : i + 5 ≤ n) (hn : n ≤ 2560) (ih : ∀ (h : ia_H) (A : aS), lwJ A n sc h → ia_Sx pg G kk_L_law d (29 * r) (11070 * r) 18 [.ref 0, .ref 64, .ref 117, .int (nI (i + 5))] [] h (fun rv h' => rv = some (.int 1))) : ia_Sx pg G kk_L_law d (29 * (r + 1)) (11070 * (r + 1)) 530 [.ref 0, .ref 64, .ref 117, .int (nI i)] [] h (fun rv h' => rv = some (.int 1)) := by
  obtain ⟨C, R, I, ⟨f, e0, g0⟩, h142⟩ := id J
  obtain ⟨fs, e64⟩ := C.c64
  refine ia_go 5 rfl ?_
  rw [show nI i + 1 = nI (i + 1) from nI_add i 1]
  refine ia_iald rfl e0 (vp_in_nI (show i + 1 < n by omega) (by omega)) (v := .int (sc (i + 1))) (by rw [nI_clamp (by omega), g0 _ (by omega)]) ?_
  refine jd_cV 64 [.int (sc (i + 1))] [] 0 0 (d' := d - 1) rfl rfl rfl e64 rfl rfl (by omega) (by omega) (by omega) (cx_after C I) ?_
  rintro rv h1 ⟨rfl, C1, f1, -⟩
  have R1 := R.off f1 h142
  have e1 := (f1.2 0 (by omega) (fun z => by have := z.1; omega)).trans e0
  obtain ⟨fs1, e117⟩ := R1.c117
  refine ia_go 5 rfl ?_
  rw [show nI i + 1 = nI (i + 1) from nI_add i 1]
  refine ia_iald rfl e1 (vp_in_nI (show i + 1 < n by omega) (by omega)) (v := .int (sc (i + 1))) (by rw [nI_clamp (by omega), g0 _ (by omega)]) ?_
  refine jd_cV 117 [.int (sc (i + 1))] [.int (sp_after A (sc (i + 1))).2] 0 0 (d' := d - 1) rfl rfl rfl e117 rfl rfl (by omega) (by omega) (by omega) (rx_after R1) ?_
  rintro rv h2 ⟨rfl, R2, f2, -⟩
  refine ia_go 1 rfl ?_
  rw [if_pos (by exact rfl)]
  refine ia_go 1 rfl ?_
  dsimp only [ia_s1, ia_s2, ia_cl, ia_D, List.getElem?_cons_zero, List.getElem?_cons_succ, List.set_cons_zero, List.set_cons_succ]
  refine ia_go 1 rfl ?_
  rw [of_5, nI_add]
  exact ia_Sx.room (ih h2 _ (lw_nx J C1 f1 R2 f2 (I))) (Nat.le_refl _) (by omega) (by omega)
end LW
set_option maxRecDepth 16384 in
theorem lw_loop {G : ia_G} {d n : Nat} {sc : Nat → Int32} (hd : 38 ≤ d) (hn : n ≤ 2560) : ∀ (r i : Nat), i ≤ n → n < i + 5 * r + 5 → ∀ (h : ia_H) (A : aS), lwJ A n sc h → ia_Sx pg G kk_L_law d (29 * r) (11070 * r) 18 [.ref 0, .ref 64, .ref 117, .int (nI i)] [] h (fun rv h' => rv = some (.int 1)) := by
  intro r
  induction r with
  | zero =>
    intro i hi hr h A J
    obtain ⟨C, R, I, ⟨f, e0, g0⟩, h142⟩ := id J
    refine ia_go 2 rfl ?_
    refine jd_alen rfl e0 ?_
    refine ia_go 3 rfl ?_
    rw [if_pos (by exact ((sub5 (by omega) (by omega)).mpr (by omega)))]
    refine ia_go 1 rfl ?_
    exact jd_rv1 rfl rfl rfl rfl rfl
  | succ r ih =>
    intro i hi hr h A J
    obtain ⟨C, R, I, ⟨f, e0, g0⟩, h142⟩ := id J
    by_cases c : n < i + 5
    ·
      refine ia_go 2 rfl ?_
      refine jd_alen rfl e0 ?_
      refine ia_go 3 rfl ?_
      rw [if_pos (by exact ((sub5 (by omega) (by omega)).mpr c))]
      refine ia_go 1 rfl ?_
      exact jd_rv1 rfl rfl rfl rfl rfl
    obtain ⟨k, hk, ek⟩ := and15 (sc i)
    have ih' : ∀ (h : ia_H) (A : aS), lwJ A n sc h → ia_Sx pg G kk_L_law d (29 * r) (11070 * r) 18 [.ref 0, .ref 64, .ref 117, .int (nI (i + 5))] [] h (fun rv h' => rv = some (.int 1)) := fun h A J => ih (i + 5) (by omega) (by omega) h A J
    refine ia_go 2 rfl ?_
    refine jd_alen rfl e0 ?_
    refine ia_go 3 rfl ?_
    rw [if_neg (by exact (fun z => c ((sub5 (by omega) (by omega)).mp z)))]
    refine ia_go 2 rfl ?_
    refine ia_iald rfl e0 (vp_in_nI (show i < n by omega) (by omega)) (v := .int (sc i)) (by rw [nI_clamp (by omega), g0 _ (by omega)]) ?_
    refine ia_go 2 rfl ?_
    rw [ek]
    rcases (show k = 0 ∨ k = 1 ∨ k = 2 ∨ k = 3 ∨ k = 4 ∨ k = 5 ∨ k = 6 ∨ k = 7 ∨ k = 8 ∨ k = 9 ∨ k = 10 ∨ k = 11 ∨ k = 12 ∨ k = 13 ∨ k = 14 ∨ k = 15 by omega) with rfl | rfl | rfl | rfl | rfl | rfl | rfl | rfl | rfl | rfl | rfl | rfl | rfl | rfl | rfl | rfl
    ·
      refine ia_go 1 rfl ?_
      skip
      exact lw_type hd J (by omega) hn ih'
    ·
      refine ia_go 1 rfl ?_
      skip
      exact lw_hold hd J (by omega) hn ih'
    ·
      refine ia_go 1 rfl ?_
      skip
      exact lw_begin hd J (by omega) hn ih'
    ·
      refine ia_go 1 rfl ?_
      skip
      exact lw_refine hd J (by omega) hn ih'
    ·
      refine ia_go 1 rfl ?_
      skip
      exact lw_prove hd J (by omega) hn ih'
    ·
      refine ia_go 1 rfl ?_
      skip
      exact lw_refuting hd J (by omega) hn ih'
    ·
      refine ia_go 1 rfl ?_
      skip
      exact lw_open hd J (by omega) hn ih'
    ·
      refine ia_go 1 rfl ?_
      skip
      exact lw_first hd J (by omega) hn ih'
    ·
      refine ia_go 1 rfl ?_
      skip
      exact lw_prune hd J (by omega) hn ih'
    ·
      refine ia_go 1 rfl ?_
      skip
      exact lw_node hd J (by omega) hn ih'
    ·
      refine ia_go 1 rfl ?_
      skip
      exact lw_text hd J (by omega) hn ih'
    ·
      refine ia_go 1 rfl ?_
      skip
      exact lw_program hd J (by omega) hn ih'
    ·
      refine ia_go 1 rfl ?_
      skip
      exact lw_instruction hd J (by omega) hn ih'
    ·
      refine ia_go 1 rfl ?_
      skip
      exact lw_run hd J (by omega) hn ih'
    ·
      refine ia_go 1 rfl ?_
      skip
      exact lw_after hd J (by omega) hn ih'
    ·
      refine ia_go 1 rfl ?_
      skip
      refine ia_go 1 rfl ?_
      dsimp only [ia_s1, ia_s2, ia_cl, ia_D, List.getElem?_cons_zero, List.getElem?_cons_succ, List.set_cons_zero, List.set_cons_succ]
      refine ia_go 1 rfl ?_
      rw [of_5, nI_add]
      exact ia_Sx.room (ih' h A J) (Nat.le_refl _) (by omega) (by omega)
