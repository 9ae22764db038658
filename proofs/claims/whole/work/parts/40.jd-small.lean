/-! THE JDK'S METHODS, 1: the small ones. Class 9 is StringBuilder (value, coder, maybeLatin1, count), class 10 String (value, coder, hash, hashIsZero). -/
theorem jd_rv1 {P : ia_P} {G : ia_G} {k d bc bs pc : Nat} {ls : List Value} {h : ia_H} {Post : Option Value → ia_H → Prop} {nx tg r2 : Nat} {cst v : Value} {i : Instr} (hr : ia_row P k pc = some (i, nx, tg, r2, cst)) {t : Option FieldType} (ht : ((ia_Pm P)[k]?).map (fun M => ia_mr M) = some t) (hi : i = ia_ri t) (hv : ia_rv t (some v)) (hp : Post (some v) h) : ia_Sx P G k d bc bs pc ls [v] h Post := ia_ret hr ht hi rfl hv hp
theorem jd_rv0 {P : ia_P} {G : ia_G} {k d bc bs pc : Nat} {ls : List Value} {h : ia_H} {Post : Option Value → ia_H → Prop} {nx tg r2 : Nat} {cst : Value} {i : Instr} (hr : ia_row P k pc = some (i, nx, tg, r2, cst)) (ht : ((ia_Pm P)[k]?).map (fun M => ia_mr M) = some none) (hi : i = .return_) (hp : Post none h) : ia_Sx P G k d bc bs pc ls [] h Post := ia_ret (rv := none) hr ht hi rfl trivial hp
theorem jd_met {P : ia_P} {G : ia_G} {z d mc ms n : Nat} {as ls : List Value} {h : ia_H} {Post : Option Value → ia_H → Prop} (hn : ((ia_Pm P)[z]?).map (fun M => ia_ml M) = some n) (hen : ia_en as n = ls) (hlen : Nat.ble (ia_fa as).length n = true) (k1 : ia_Sx P G z d mc ms 0 ls [] h Post) : ia_Cn P G z d mc ms as h Post := ia_met hn hen (Nat.le_of_ble_eq_true hlen) k1
theorem jd_alen {P : ia_P} {G : ia_G} {k d bc bs pc : Nat} {ls st : List Value} {h : ia_H} {Post : Option Value → ia_H → Prop} {nx tg r2 a n : Nat} {cst : Value} {ty : FieldType} {f : Nat → Value} (hr : ia_row P k pc = some (.arraylength, nx, tg, r2, cst)) (ha : h.1 a = some (.inl (ty, n, f))) (kk : ia_Sx P G k d bc bs nx ls (.int (nI n) :: st) h Post) : ia_Sx P G k d bc bs pc ls (.ref a :: st) h Post := ia_alen hr ha kk
/-- calls, with what is the same everywhere filled in -/
theorem jd_cV {G : ia_G} {k d bc bs pc : Nat} {ls : List Value} {h : ia_H} {Post : Option Value → ia_H → Prop} {nx z r2 idx ci : Nat} (a : Nat) (as rest : List Value) {stk fs : List Value} (mc ms : Nat) {d' : Nat} {Post' : Option Value → ia_H → Prop} (hr : ia_row pg k pc = some (.invokevirtual idx, nx, z, r2, .retAddr ci)) (hr2 : Nat.beq r2 10 = false) (hstk : stk = as.reverse ++ .ref a :: rest) (ha : h.1 a = some (.inr (ci, fs))) (hn : ((ia_Pm pg)[z]?).map (fun Z => ia_mn Z) = some as.length) (hroom : Nat.ble (rest.map fun v => v.category).sum 8 = true) (hd : d' + 1 ≤ d) (hbc : mc ≤ bc) (hbs : ms ≤ bs) (hK : ia_Cn pg G z d' mc ms (.ref a :: as) h Post') (kk : ∀ rv h', Post' rv h' → ia_Sx pg G k d (bc - mc) (bs - ms) nx ls (rv.toList ++ rest) h' Post) : ia_Sx pg G k d bc bs pc ls stk h Post :=
  ia_callV pg_ok.2 hr (fun e => by rw [e] at hr2; cases hr2) hstk ha hn (Nat.le_of_ble_eq_true hroom) hd (by omega) (by omega) hK kk
theorem jd_cS {G : ia_G} {k d bc bs pc : Nat} {ls : List Value} {h : ia_H} {Post : Option Value → ia_H → Prop} {nx z r2 idx : Nat} {cst : Value} (as rest : List Value) {stk : List Value} (mc ms : Nat) {d' : Nat} {Post' : Option Value → ia_H → Prop} (hr : ia_row pg k pc = some (.invokestatic idx, nx, z, r2, cst)) (hr2 : Nat.blt r2 9 = true) (hstk : stk = as.reverse ++ rest) (hn : ((ia_Pm pg)[z]?).map (fun Z => ia_mn Z) = some as.length) (hroom : Nat.ble (rest.map fun v => v.category).sum 8 = true) (hd : d' + 1 ≤ d) (hbc : mc ≤ bc) (hbs : ms ≤ bs) (hK : ia_Cn pg G z d' mc ms as h Post') (kk : ∀ rv h', Post' rv h' → ia_Sx pg G k d (bc - mc) (bs - ms) nx ls (rv.toList ++ rest) h' Post) : ia_Sx pg G k d bc bs pc ls stk h Post :=
  ia_callS pg_ok.2 hr (Nat.le_of_ble_eq_true hr2) hstk hn (Nat.le_of_ble_eq_true hroom) hd (by omega) (by omega) hK kk
theorem jd_cI {G : ia_G} {k d bc bs pc : Nat} {ls : List Value} {h : ia_H} {Post : Option Value → ia_H → Prop} {nx z r2 idx ci : Nat} {cst : Value} (a : Nat) (as rest : List Value) {stk fs : List Value} (mc ms : Nat) {d' : Nat} {Post' : Option Value → ia_H → Prop} (hr : ia_row pg k pc = some (.invokespecial idx, nx, z, r2, cst)) (hr2 : Nat.beq r2 8 = false) (hstk : stk = as.reverse ++ .ref a :: rest) (ha : h.1 a = some (.inr (ci, fs))) (hn : ((ia_Pm pg)[z]?).map (fun Z => ia_mn Z) = some as.length) (hroom : Nat.ble (rest.map fun v => v.category).sum 8 = true) (hd : d' + 1 ≤ d) (hbc : mc ≤ bc) (hbs : ms ≤ bs) (hK : ia_Cn pg G z d' mc ms (.ref a :: as) h Post') (kk : ∀ rv h', Post' rv h' → ia_Sx pg G k d (bc - mc) (bs - ms) nx ls (rv.toList ++ rest) h' Post) : ia_Sx pg G k d bc bs pc ls stk h Post :=
  ia_callI (x0 := .inr (0, [])) pg_ok.2 hr (fun e => by rw [e] at hr2; cases hr2) hstk ⟨ci, fs, ha⟩ hn (Nat.le_of_ble_eq_true hroom) hd (by omega) (by omega) hK kk
theorem jd_sh0 (x : Int32) : x >>> ((0 : Int32) &&& 31) = x := by
  rw [show ((0 : Int32) &&& 31) = 0 by decide]; simp
theorem jd_sl0 (x : Int32) : x <<< ((0 : Int32) &&& 31) = x := by
  rw [show ((0 : Int32) &&& 31) = 0 by decide]; simp
theorem jd_sub {a b : Nat} (h : b ≤ a) : nI a - nI b = nI (a - b) := by
  have := nI_add (a - b) b
  rw [Nat.sub_add_cancel h] at this
  rw [← this]
  exact Int32.add_sub_cancel _ _
theorem jd_latin {G : ia_G} {h : ia_H} {d a : Nat} {v0 v2 v3 : Value} (ha : h.1 a = some (.inr (9, [v0, .int 0, v2, v3]))) : ia_Cn pg G kk_ab_isLatin1 d 0 0 [.ref a] h (fun rv h' => rv = some (.int 1) ∧ h' = h) := by
  refine jd_met rfl rfl rfl ?_
  refine ia_gets rfl ?_
  refine ia_go 2 rfl ?_
  refine ia_getf rfl ha rfl ?_
  refine ia_go 3 rfl ?_
  exact jd_rv1 rfl rfl rfl rfl ⟨rfl, rfl⟩
theorem jd_count {G : ia_G} {h : ia_H} {d a : Nat} {v0 v1 v2 : Value} {n : Int32} (ha : h.1 a = some (.inr (9, [v0, v1, v2, .int n]))) : ia_Cn pg G kk_ab_length d 0 0 [.ref a] h (fun rv h' => rv = some (.int n) ∧ h' = h) := by
  refine jd_met rfl rfl rfl ?_
  refine ia_go 1 rfl ?_
  refine ia_getf rfl ha rfl ?_
  exact jd_rv1 rfl rfl rfl trivial ⟨rfl, rfl⟩
theorem jd_sbcount {G : ia_G} {h : ia_H} {d a : Nat} {v0 v1 v2 : Value} {n : Int32} (hd : 1 ≤ d) (ha : h.1 a = some (.inr (9, [v0, v1, v2, .int n]))) : ia_Cn pg G kk_sb_length d 0 0 [.ref a] h (fun rv h' => rv = some (.int n) ∧ h' = h) := by
  refine jd_met rfl rfl rfl ?_
  refine ia_go 1 rfl ?_
  refine jd_cI a [] [] 0 0 (d' := d - 1) rfl rfl rfl ha rfl rfl (by omega) (by omega) (by omega) (jd_count ha) ?_
  rintro rv h' ⟨rfl, rfl⟩
  exact jd_rv1 rfl rfl rfl trivial ⟨rfl, rfl⟩
theorem jd_value {G : ia_G} {h : ia_H} {d a v : Nat} {v1 v2 v3 : Value} (ha : h.1 a = some (.inr (9, [.ref v, v1, v2, v3]))) : ia_Cn pg G kk_ab_getValue d 0 0 [.ref a] h (fun rv h' => rv = some (.ref v) ∧ h' = h) := by
  refine jd_met rfl rfl rfl ?_
  refine ia_go 1 rfl ?_
  refine ia_getf rfl ha rfl ?_
  exact jd_rv1 rfl rfl rfl trivial ⟨rfl, rfl⟩
theorem jd_coder {G : ia_G} {h : ia_H} {d a : Nat} {v0 : Value} {r : List Value} (ha : h.1 a = some (.inr (10, v0 :: .int 0 :: r))) : ia_Cn pg G kk_st_coder d 0 0 [.ref a] h (fun rv h' => rv = some (.int 0) ∧ h' = h) := by
  refine jd_met rfl rfl rfl ?_
  refine ia_gets rfl ?_
  refine ia_go 2 rfl ?_
  refine ia_getf rfl ha rfl ?_
  refine ia_go 1 rfl ?_
  exact jd_rv1 rfl rfl rfl rfl ⟨rfl, rfl⟩
theorem jd_slatin {G : ia_G} {h : ia_H} {d a : Nat} {v0 : Value} {r : List Value} (ha : h.1 a = some (.inr (10, v0 :: .int 0 :: r))) : ia_Cn pg G kk_st_isLatin1 d 0 0 [.ref a] h (fun rv h' => rv = some (.int 1) ∧ h' = h) := by
  refine jd_met rfl rfl rfl ?_
  refine ia_gets rfl ?_
  refine ia_go 2 rfl ?_
  refine ia_getf rfl ha rfl ?_
  refine ia_go 3 rfl ?_
  exact jd_rv1 rfl rfl rfl rfl ⟨rfl, rfl⟩
/-- String.length() -/
theorem jd_slen {G : ia_G} {h : ia_H} {d a v n : Nat} {r : List Value} {f : Nat → Value} (hd : 1 ≤ d) (ha : h.1 a = some (.inr (10, .ref v :: .int 0 :: r))) (hv : h.1 v = some (.inl (.byte, n, f))) : ia_Cn pg G kk_st_length d 0 0 [.ref a] h (fun rv h' => rv = some (.int (nI n)) ∧ h' = h) := by
  refine jd_met rfl rfl rfl ?_
  refine ia_go 1 rfl ?_
  refine ia_getf rfl ha rfl ?_
  refine jd_alen rfl hv ?_
  refine ia_go 1 rfl ?_
  refine jd_cV a [] [.int (nI n)] 0 0 (d' := d - 1) rfl rfl rfl ha rfl rfl (by omega) (by omega) (by omega) (jd_coder ha) ?_
  rintro rv h' ⟨rfl, rfl⟩
  refine ia_go 1 rfl ?_
  rw [jd_sh0]
  exact jd_rv1 rfl rfl rfl trivial ⟨rfl, rfl⟩
/-- Preconditions.checkIndex, String.checkIndex: an index that is in -/
theorem jd_pchk {G : ia_G} {h : ia_H} {d : Nat} {i n : Int32} {v : Value} (hi : ¬ i < 0) (hn : i < n) (hv : v = .retAddr 1) : ia_Cn pg G kk_pr_checkIndex d 0 0 [.int i, .int n, v] h (fun rv h' => rv = some (.int i) ∧ h' = h) := by
  subst hv
  refine jd_met rfl rfl rfl ?_
  refine ia_go 2 rfl ?_
  rw [if_neg hi]
  refine ia_go 3 rfl ?_
  rw [if_pos hn]
  refine ia_go 1 rfl ?_
  exact jd_rv1 rfl rfl rfl trivial ⟨rfl, rfl⟩
theorem jd_chk {G : ia_G} {h : ia_H} {d : Nat} {i n : Int32} (hd : 1 ≤ d) (hi : ¬ i < 0) (hn : i < n) : ia_Cn pg G kk_st_checkIndex d 0 0 [.int i, .int n] h (fun rv h' => rv = none ∧ h' = h) := by
  refine jd_met rfl rfl rfl ?_
  refine ia_go 2 rfl ?_
  refine ia_gets rfl ?_
  refine jd_cS [.int i, .int n, .retAddr 1] [] 0 0 (d' := d - 1) rfl rfl rfl rfl rfl (by omega) (by omega) (by omega) (jd_pchk hi hn rfl) ?_
  rintro rv h' ⟨rfl, rfl⟩
  refine ia_go 1 rfl ?_
  exact jd_rv0 rfl rfl rfl ⟨rfl, rfl⟩
/-- a byte that is a plain character, as a char -/
theorem jd_ch {c : Int32} (h0 : 0 ≤ c) (h1 : c ≤ 127) : ((c &&& 255).toUInt32 % 65536).toInt32 = c := by
  have e0 : (0 : Int) ≤ c.toInt := by simpa using Int32.le_iff_toInt_le.mp h0
  have e1 : c.toInt ≤ 127 := by simpa using Int32.le_iff_toInt_le.mp h1
  obtain ⟨j, hj, rfl⟩ := nI_of (x := c) (by
    intro h; have := Int32.lt_iff_toInt_lt.mp h; simp at this; omega)
  rw [nI_toInt hj] at e1
  have hj2 : j < 128 := by omega
  have key : ∀ k : Fin 128, ((nI k.val &&& 255).toUInt32 % 65536).toInt32 = nI k.val := by decide +kernel
  exact key ⟨j, hj2⟩
theorem jd_lachar {G : ia_G} {h : ia_H} {d v n j : Nat} {f : Nat → Value} {c : Int32} (hd : 2 ≤ d) (hv : h.1 v = some (.inl (.byte, n, f))) (hn : n < 2 ^ 31) (hj : j < n) (hf : f j = .int c) (h0 : 0 ≤ c) (h1 : c ≤ 127) : ia_Cn pg G kk_la_charAt d 0 0 [.ref v, .int (nI j)] h (fun rv h' => rv = some (.int c) ∧ h' = h) := by
  refine jd_met rfl rfl rfl ?_
  refine ia_go 2 rfl ?_
  refine jd_alen rfl hv ?_
  refine jd_cS [.int (nI j), .int (nI n)] [] 0 0 (d' := d - 1) rfl rfl rfl rfl rfl (by omega) (by omega) (by omega) (jd_chk (by omega) (nI_pos (by omega)) (nI_lt hj hn)) ?_
  rintro rv h' ⟨rfl, rfl⟩
  refine ia_go 2 rfl ?_
  refine ia_bald rfl hv (vp_in_nI hj hn) (v := .int c) (by rw [nI_clamp (by omega)]; exact hf) ?_
  refine ia_go 3 rfl ?_
  rw [jd_ch h0 h1]
  refine jd_rv1 rfl rfl rfl ?_ ⟨rfl, rfl⟩
  obtain ⟨m, hm, rfl⟩ := nI_of (x := c) (by
    intro h; exact absurd h (Int32.not_lt.mpr h0))
  have hm2 : m < 128 := by
    have := (nI_leI hm (b := 127) (by decide)).mp h1
    omega
  have key : ∀ k : Fin 128, narrow .char (.int (nI k.val)) = .int (nI k.val) := by decide +kernel
  exact key ⟨m, hm2⟩
/-- String.charAt -/
theorem jd_char {G : ia_G} {h : ia_H} {d a v n j : Nat} {r : List Value} {f : Nat → Value} {c : Int32} (hd : 3 ≤ d) (ha : h.1 a = some (.inr (10, .ref v :: .int 0 :: r))) (hv : h.1 v = some (.inl (.byte, n, f))) (hn : n < 2 ^ 31) (hj : j < n) (hf : f j = .int c) (h0 : 0 ≤ c) (h1 : c ≤ 127) : ia_Cn pg G kk_st_charAt d 0 0 [.ref a, .int (nI j)] h (fun rv h' => rv = some (.int c) ∧ h' = h) := by
  refine jd_met rfl rfl rfl ?_
  refine ia_go 1 rfl ?_
  refine jd_cV a [] [] 0 0 (d' := d - 1) rfl rfl rfl ha rfl rfl (by omega) (by omega) (by omega) (jd_slatin ha) ?_
  rintro rv h' ⟨rfl, rfl⟩
  refine ia_go 2 rfl ?_
  refine ia_getf rfl ha rfl ?_
  refine ia_go 1 rfl ?_
  refine jd_cS [.ref v, .int (nI j)] [] 0 0 (d' := d - 1) rfl rfl rfl rfl rfl (by omega) (by omega) (by omega) (jd_lachar (by omega) hv hn hj hf h0 h1) ?_
  rintro rv h' ⟨rfl, rfl⟩
  refine jd_rv1 rfl rfl rfl ?_ ⟨rfl, rfl⟩
  obtain ⟨m, hm, rfl⟩ := nI_of (x := c) (by
    intro h; exact absurd h (Int32.not_lt.mpr h0))
  have hm2 : m < 128 := by
    have := (nI_leI hm (b := 127) (by decide)).mp h1
    omega
  have key : ∀ k : Fin 128, narrow .char (.int (nI k.val)) = .int (nI k.val) := by decide +kernel
  exact key ⟨m, hm2⟩
