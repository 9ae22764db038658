/-! THE CLASS, 8: the steps, law by law (printed by gen/steps.py). -/
theorem sb.gen {P0 : ia_P} {G : ia_G} {k d bc bs pc : Nat} {ls st : List Value} {Post : Option Value → ia_H → Prop} {h0 H : ia_H} {u v0 : Nat} {L : List (Nat × ia_E)} {M : List (Nat × List Int32)} {P : Prop} {U : List Int32} (x : sb h0 u v0 L M P U H) (kk : ∀ h, sb h0 u v0 L M P U h → ia_Sx P0 G k d bc bs pc ls st h Post) : ia_Sx P0 G k d bc bs pc ls st H Post := kk H x
theorem sb.size {h0 h : ia_H} {u v0 : Nat} {L : List (Nat × ia_E)} {M : List (Nat × List Int32)} {P : Prop} {U : List Int32} (x : sb h0 u v0 L M P U h) : h0.2 ≤ h.2 ∧ 142 ≤ h.2 := by
  obtain ⟨v, c2, tl, -, -, f, -, -, -, -, q, -⟩ := x
  exact ⟨f.1, q.2.2.2⟩
theorem sb.lt {h0 h : ia_H} {u v0 q : Nat} {e : ia_E} {L : List (Nat × ia_E)} {M : List (Nat × List Int32)} {P : Prop} {U : List Int32} (x : sb h0 u v0 L M P U h) (hq : (q, e) ∈ L) : q < h.2 := by
  obtain ⟨v, c2, tl, -, -, -, -, -, k, -⟩ := x
  exact (k _ hq).2.1
theorem cl_pinit {G : ia_G} {h : ia_H} {d s : Nat} {w : Int32} (hd : 1 ≤ d) (hs : h.1 s = some (.inr (7, [.int 0, .null, .null, .null, .null, .int 0, .int 0, .null]))) (h64 : 64 ≤ s) : ia_Cn pg G kk_P_init d 0 0 [.ref s, .int w] h (fun rv h' => rv = none ∧ o1 h h' s (.inr (7, [.int w, .null, .null, .null, .null, .int 0, .int 0, .null]))) := by
  refine jd_met (ls := [.ref s, .int w]) rfl rfl rfl ?_
  refine ia_go 1 rfl ?_
  refine ia_obj pg_ok.2 rfl (Nat.le_of_ble_eq_true rfl) (by omega) ?_
  refine ia_go 2 rfl ?_
  refine ia_putf rfl hs h64 rfl rfl rfl rfl ?_
  exact jd_rv0 rfl rfl rfl ⟨rfl, o1.up⟩
/-- what is there when a step is put together -/
def hb (h0 : ia_H) (v0 x : Nat) (fr : Int32) (p q s0 s1 s3 : Nat) : Prop := (∃ fs, h0.1 64 = some (.inr (0, .ref 65 :: .ref 67 :: .ref 68 :: .ref 69 :: fs))) ∧ (∃ f, h0.1 67 = some (.inl (.object "RefinementBench$Slot", 4, f)) ∧ ∀ i, i < 4 → f i = .ref (113 + i)) ∧ (h0.1 113 = some (.inr (6, [.ref s0])) ∧ h0.1 114 = some (.inr (6, [.ref s1])) ∧ h0.1 116 = some (.inr (6, [.ref s3]))) ∧ (∃ pv nn st, h0.1 x = some (.inr (5, [pv, .int fr, .ref p, .ref q, nn, st]))) ∧ (142 ≤ x ∧ x < h0.2 ∧ x ≠ v0) ∧ (v0 = 71 ∨ 142 ≤ v0) ∧ 142 ≤ h0.2
def hm (M : List (Nat × List Int32)) (p q s0 s1 s3 : Nat) (pT qT f0 f1 eT : List Int32) : Prop := (∀ z, z ∈ cst → z ∈ M) ∧ (p, pT) ∈ M ∧ (q, qT) ∈ M ∧ (s0, f0) ∈ M ∧ (s1, f1) ∈ M ∧ (s3, eT) ∈ M
/-- a child that has been made -/
def kid (h0 : ia_H) (L : List (Nat × ia_E)) (M : List (Nat × List Int32)) (x : Nat) (fr : Int32) (c : Prop) (k : Value) (U0 U1 : List Int32) : Prop := (c → ∃ y a0 a1, k = .ref y ∧ (y, .inr (5, [.ref x, .int fr, .ref a0, .ref a1, .int 0, .null])) ∈ L ∧ (a0, tk U0) ∈ M ∧ (a1, tk U1) ∈ M ∧ h0.2 < y) ∧ (¬ c → k = .null)
def cdm (M : List (Nat × List Int32)) (c : Prop) (k : Value) (U : List Int32) : Prop := (c → ∃ a, k = .ref a ∧ (a, tk U) ∈ M) ∧ (¬ c → k = .null)
/-- the step is there -/
def SR (h0 : ia_H) (u v0 x w : Nat) (y fr : Int32) (K C : List (List Int32)) (g : List Int32) (h' : ia_H) : Prop := ∃ (L : List (Nat × ia_E)) (M : List (Nat × List Int32)) (k1 k2 c1 c2 : Value) (vv : Int32) (pt : Value), sb h0 u v0 L M ((∀ U, U ∈ K → U.length ≤ 120) ∧ ∀ U, U ∈ C → U.length ≤ 120) [] h' ∧ (h0.2, .inr (7, [.int (nI w), k1, k2, c1, c2, .int 0, .int vv, pt])) ∈ L ∧ kid h0 L M x (if w = 8 then y else fr) (3 ≤ w) k1 (K.getD 0 []) (K.getD 1 []) ∧ kid h0 L M x (if w = 8 then y else fr) (w = 3 ∨ w = 4) k2 (K.getD 2 []) (K.getD 3 []) ∧ (∀ y, k1 = .ref y → k2 ≠ .ref y) ∧ cdm M (1 ≤ ncw w) c1 (C.getD 0 []) ∧ cdm M (2 ≤ ncw w) c2 (C.getD 1 []) ∧ (w = 2 → vv = y) ∧ (w = 2 ∨ w = 4 ∨ w = 5 → ∃ a, pt = .ref a ∧ (a, g) ∈ M)
theorem sb.iff {h0 h : ia_H} {u v0 : Nat} {L : List (Nat × ia_E)} {M : List (Nat × List Int32)} {P P' : Prop} {U U' : List Int32} (x : sb h0 u v0 L M P U h) (e : P ↔ P') (eU : U = U') : sb h0 u v0 L M P' U' h := by
  subst eU
  obtain ⟨v, c2, tl, a1, a2, a3⟩ := x
  exact ⟨v, c2, tl, a1, a2.imp (fun z => ⟨z.1, e.mp z.2⟩) (fun z => ⟨z.1, fun y => z.2 (e.mpr y)⟩), a3⟩
theorem tk_le {U : List Int32} (h : U.length ≤ 120) : tk U = U := if_pos h
section ST
variable {G : ia_G} {h0 g0 : ia_H} {d u v0 x p q s0 s1 s3 : Nat} {fr y : Int32} {M : List (Nat × List Int32)} {P : Prop} {pT qT f0 f1 eT : List Int32}
theorem st_assign (hd : 7 ≤ d) (B : hb h0 v0 x fr p q s0 s1 s3) (hM : hm M p q s0 s1 s3 pT qT f0 f1 eT) (lp : pT.length ≤ 120) (lq : qT.length ≤ 120) (l0 : f0.length ≤ 120) (l1 : f1.length ≤ 120) (l3 : eT.length ≤ 120) (hy : ((97 + y).toUInt32 % 65536).toInt32 = 97 + y) (X0 : sb h0 u v0 [(h0.2, .inr (7, [.int (nI 2), .null, .null, .null, .null, .int 0, .int 0, .null]))] M P [] g0) : ia_Cn pg G kk_R_assign d 11 4804 [.ref 64, .ref h0.2, .ref x, .int y] g0 (fun rv h' => rv = none ∧ ∃ a, sb h0 u v0 [(h0.2, .inr (7, [.int (nI 2), .null, .null, .ref a, .null, .int 0, .int y, .ref s3]))] ((a, tk ([] ++ [62] ++ pT ++ tx_r (97 + y) eT qT)) :: M) (P ∧ ([] ++ [62] ++ pT ++ tx_r (97 + y) eT qT).length ≤ 120) [] h') := by
  obtain ⟨⟨fs64, e64⟩, ⟨f67, e67, g67⟩, ⟨e113, e114, e116⟩, ⟨pv, nn, stt, ex⟩, ⟨x1, x2, x3⟩, v01, h142⟩ := B
  obtain ⟨mc, mp, mq, m0, m1, m3⟩ := hM
  have m6 := mc (6, [62]) (by simp [cst])
  have m8 := mc (8, []) (by simp [cst])
  have m10 := mc (10, [38]) (by simp [cst])
  have m12 := mc (12, [33]) (by simp [cst])
  have m14 := mc (14, [38, 38]) (by simp [cst])
  have m16 := mc (16, [61]) (by simp [cst])
  have m18 := mc (18, [122]) (by simp [cst])
  have m20 := mc (20, [60]) (by simp [cst])
  have m22 := mc (22, [62, 38]) (by simp [cst])
  have zz := X0.size
  refine jd_met (ls := [.ref 64, .ref h0.2, .ref x, .int y, .retAddr 0]) rfl rfl rfl ?_
  refine ia_go 1 rfl ?_
  refine ia_getf rfl ((X0.old (by omega) (by omega) (by omega) (by omega)).trans e64) rfl ?_
  refine ia_go 1 rfl ?_
  refine ia_aald rfl ((X0.old (by omega) (by omega) (by omega) (by omega)).trans e67) (by unfold vp_in; decide) (v := .ref 116) (g67 3 (by omega)) ?_
  refine ia_getf rfl ((X0.old (by omega) (by omega) (by omega) (by omega)).trans e116) rfl ?_
  refine ia_go 1 rfl ?_
  dsimp only [ia_s1, ia_s2, ia_cl, ia_D, List.getElem?_cons_zero, List.getElem?_cons_succ, List.set_cons_zero, List.set_cons_succ]
  refine ia_go 2 rfl ?_
  refine ia_putf rfl (X0.cell List.mem_cons_self) (by omega) rfl rfl rfl rfl ?_
  refine ia_go 2 rfl ?_
  refine sb.gen (X0.set (fs' := [.int (nI 2), .null, .null, .null, .null, .int 0, .int y, .null]) o1.up (by decide) (by omega) (fun q hq => (by cases hq))) (fun g1 X1 => ?_)
  refine ia_putf rfl (X1.cell List.mem_cons_self) (by omega) rfl rfl rfl rfl ?_
  refine ia_go 1 rfl ?_
  refine sb.gen (X1.set (fs' := [.int (nI 2), .null, .null, .null, .null, .int 0, .int y, .ref s3]) o1.up (by decide) (by omega) (fun q hq => (by cases hq))) (fun g2 X2 => ?_)
  refine ia_getf rfl ((X2.old (by omega) (by omega) (by omega) (by omega)).trans e64) rfl ?_
  refine ia_ldcS rfl ?_
  obtain ⟨_, od2⟩ := X2.o
  refine jd_cV 69 [.ref 6] [] 1 480 (d' := d - 1) rfl rfl rfl od2 rfl rfl (by omega) (by omega) (by omega) (X2.put (by omega) m6 (by decide)) ?_
  rintro rv g3 ⟨rfl, X3⟩
  refine ia_go 1 rfl ?_
  refine ia_getf rfl ((X3.old x2 (by omega) (by omega) x3).trans ex) rfl ?_
  obtain ⟨_, od3⟩ := X3.o
  refine jd_cV 69 [.ref p] [] 1 480 (d' := d - 1) rfl rfl rfl od3 rfl rfl (by omega) (by omega) (by omega) (X3.put (by omega) mp lp) ?_
  rintro rv g4 ⟨rfl, X4⟩
  refine ia_go 3 rfl ?_
  refine ia_getf rfl ((X4.old (by omega) (by omega) (by omega) (by omega)).trans e64) rfl ?_
  refine ia_go 1 rfl ?_
  refine ia_getf rfl ((X4.old x2 (by omega) (by omega) x3).trans ex) rfl ?_
  refine ia_go 4 rfl ?_
  rw [hy]
  refine ia_go 1 rfl ?_
  obtain ⟨_, od4⟩ := X4.o
  refine jd_cV 69 [.ref q, .int (97 + y), .ref s3] [.ref h0.2] 7 3360 (d' := d - 1) rfl rfl rfl od4 rfl rfl (by omega) (by omega) (by omega) (X4.wth (by omega) mq m3 lq l3) ?_
  rintro rv g5 ⟨rfl, X5⟩
  obtain ⟨_, od5⟩ := X5.o
  refine jd_cV 69 [] [.ref h0.2] 2 484 (d' := d - 1) rfl rfl rfl od5 rfl rfl (by omega) (by omega) (by omega) (X5.take (by omega) m8) ?_
  rintro rv g6 ⟨a6, rfl, X6⟩
  refine ia_putf rfl (X6.cell List.mem_cons_self) (by omega) rfl rfl rfl rfl ?_
  refine sb.gen (X6.set (fs' := [.int (nI 2), .null, .null, .ref a6, .null, .int 0, .int y, .ref s3]) o1.up (by decide) (by omega) (fun q hq => (by cases hq))) (fun g7 X7 => ?_)
  exact jd_rv0 rfl rfl rfl ⟨rfl, a6, X7⟩
theorem st_alt (hd : 7 ≤ d) (B : hb h0 v0 x fr p q s0 s1 s3) (hM : hm M p q s0 s1 s3 pT qT f0 f1 eT) (lp : pT.length ≤ 120) (lq : qT.length ≤ 120) (l0 : f0.length ≤ 120) (l1 : f1.length ≤ 120) (l3 : eT.length ≤ 120) (X0 : sb h0 u v0 [(h0.2, .inr (7, [.int (nI 4), .null, .null, .null, .null, .int 0, .int 0, .null]))] M P [] g0) : ia_Cn pg G kk_R_alternate d 13 4340 [.ref 64, .ref h0.2, .ref x, .ref s0] g0 (fun rv h' => rv = none ∧ ∃ a b y1 y2, h0.2 < y1 ∧ y1 < y2 ∧ sb h0 u v0 [(h0.2, .inr (7, [.int (nI 4), .ref y1, .ref y2, .null, .null, .int 0, .int 0, .ref s0])), (y2, .inr (5, [.ref x, .int fr, .ref b, .ref q, .int 0, .null])), (y1, .inr (5, [.ref x, .int fr, .ref a, .ref q, .int 0, .null]))] ((b, tk ([] ++ [38] ++ pT ++ [33] ++ f0)) :: (a, tk ([] ++ [38] ++ pT ++ f0)) :: M) ((P ∧ ([] ++ [38] ++ pT ++ f0).length ≤ 120) ∧ ([] ++ [38] ++ pT ++ [33] ++ f0).length ≤ 120) [] h') := by
  obtain ⟨⟨fs64, e64⟩, ⟨f67, e67, g67⟩, ⟨e113, e114, e116⟩, ⟨pv, nn, stt, ex⟩, ⟨x1, x2, x3⟩, v01, h142⟩ := B
  obtain ⟨mc, mp, mq, m0, m1, m3⟩ := hM
  have m6 := mc (6, [62]) (by simp [cst])
  have m8 := mc (8, []) (by simp [cst])
  have m10 := mc (10, [38]) (by simp [cst])
  have m12 := mc (12, [33]) (by simp [cst])
  have m14 := mc (14, [38, 38]) (by simp [cst])
  have m16 := mc (16, [61]) (by simp [cst])
  have m18 := mc (18, [122]) (by simp [cst])
  have m20 := mc (20, [60]) (by simp [cst])
  have m22 := mc (22, [62, 38]) (by simp [cst])
  have zz := X0.size
  refine jd_met (ls := [.ref 64, .ref h0.2, .ref x, .ref s0, .retAddr 0, .retAddr 0]) rfl rfl rfl ?_
  refine ia_go 2 rfl ?_
  refine ia_putf rfl (X0.cell List.mem_cons_self) (by omega) rfl rfl rfl rfl ?_
  refine ia_go 1 rfl ?_
  refine sb.gen (X0.set (fs' := [.int (nI 4), .null, .null, .null, .null, .int 0, .int 0, .ref s0]) o1.up (by decide) (by omega) (fun q hq => (by cases hq))) (fun g1 X1 => ?_)
  refine ia_getf rfl ((X1.old (by omega) (by omega) (by omega) (by omega)).trans e64) rfl ?_
  refine ia_ldcwS rfl ?_
  obtain ⟨_, od1⟩ := X1.o
  refine jd_cV 69 [.ref 10] [] 1 480 (d' := d - 1) rfl rfl rfl od1 rfl rfl (by omega) (by omega) (by omega) (X1.put (by omega) m10 (by decide)) ?_
  rintro rv g2 ⟨rfl, X2⟩
  refine ia_go 1 rfl ?_
  refine ia_getf rfl ((X2.old x2 (by omega) (by omega) x3).trans ex) rfl ?_
  obtain ⟨_, od2⟩ := X2.o
  refine jd_cV 69 [.ref p] [] 1 480 (d' := d - 1) rfl rfl rfl od2 rfl rfl (by omega) (by omega) (by omega) (X2.put (by omega) mp lp) ?_
  rintro rv g3 ⟨rfl, X3⟩
  refine ia_go 1 rfl ?_
  obtain ⟨_, od3⟩ := X3.o
  refine jd_cV 69 [.ref s0] [] 1 480 (d' := d - 1) rfl rfl rfl od3 rfl rfl (by omega) (by omega) (by omega) (X3.put (by omega) m0 l0) ?_
  rintro rv g4 ⟨rfl, X4⟩
  obtain ⟨_, od4⟩ := X4.o
  refine jd_cV 69 [] [] 2 484 (d' := d - 1) rfl rfl rfl od4 rfl rfl (by omega) (by omega) (by omega) (X4.take (by omega) m8) ?_
  rintro rv g5 ⟨a5, rfl, X5⟩
  refine ia_go 1 rfl ?_
  dsimp only [ia_s1, ia_s2, ia_cl, ia_D, List.getElem?_cons_zero, List.getElem?_cons_succ, List.set_cons_zero, List.set_cons_succ]
  refine ia_go 1 rfl ?_
  refine ia_getf rfl ((X5.old (by omega) (by omega) (by omega) (by omega)).trans e64) rfl ?_
  refine ia_ldcwS rfl ?_
  obtain ⟨_, od5⟩ := X5.o
  refine jd_cV 69 [.ref 10] [] 1 480 (d' := d - 1) rfl rfl rfl od5 rfl rfl (by omega) (by omega) (by omega) (X5.put (by omega) (List.mem_cons_of_mem _ m10) (by decide)) ?_
  rintro rv g6 ⟨rfl, X6⟩
  refine ia_go 1 rfl ?_
  refine ia_getf rfl ((X6.old x2 (by omega) (by omega) x3).trans ex) rfl ?_
  obtain ⟨_, od6⟩ := X6.o
  refine jd_cV 69 [.ref p] [] 1 480 (d' := d - 1) rfl rfl rfl od6 rfl rfl (by omega) (by omega) (by omega) (X6.put (by omega) (List.mem_cons_of_mem _ mp) lp) ?_
  rintro rv g7 ⟨rfl, X7⟩
  refine ia_ldcwS rfl ?_
  obtain ⟨_, od7⟩ := X7.o
  refine jd_cV 69 [.ref 12] [] 1 480 (d' := d - 1) rfl rfl rfl od7 rfl rfl (by omega) (by omega) (by omega) (X7.put (by omega) (List.mem_cons_of_mem _ m12) (by decide)) ?_
  rintro rv g8 ⟨rfl, X8⟩
  refine ia_go 1 rfl ?_
  obtain ⟨_, od8⟩ := X8.o
  refine jd_cV 69 [.ref s0] [] 1 480 (d' := d - 1) rfl rfl rfl od8 rfl rfl (by omega) (by omega) (by omega) (X8.put (by omega) (List.mem_cons_of_mem _ m0) l0) ?_
  rintro rv g9 ⟨rfl, X9⟩
  obtain ⟨_, od9⟩ := X9.o
  refine jd_cV 69 [] [] 2 484 (d' := d - 1) rfl rfl rfl od9 rfl rfl (by omega) (by omega) (by omega) (X9.take (by omega) (List.mem_cons_of_mem _ m8)) ?_
  rintro rv g10 ⟨a10, rfl, X10⟩
  refine ia_go 1 rfl ?_
  dsimp only [ia_s1, ia_s2, ia_cl, ia_D, List.getElem?_cons_zero, List.getElem?_cons_succ, List.set_cons_zero, List.set_cons_succ]
  refine ia_go 1 rfl ?_
  have z10 := X10.size
  have y10 : h0.2 < g10.2 := X10.lt List.mem_cons_self
  refine ia_new rfl rfl rfl (bc' := 1) (bs' := 6) (by omega) (by show 6 + 6 ≤ _; omega) ?_
  refine ia_go 3 rfl ?_
  refine sb.gen (X10.new (E := .inr (5, [.null, .int 0, .null, .null, .int 0, .null])) rfl ia_up_same (fun q hq => ia_up_ne hq)) (fun g11 X11 => ?_)
  refine ia_getf rfl ((X11.old x2 (by omega) (by omega) x3).trans ex) rfl ?_
  refine ia_go 2 rfl ?_
  refine ia_getf rfl ((X11.old x2 (by omega) (by omega) x3).trans ex) rfl ?_
  refine jd_cI g10.2 [.ref x, .int fr, .ref a5, .ref q] [.ref g10.2, .ref h0.2] 0 0 (d' := d - 1) rfl rfl rfl (X11.cell List.mem_cons_self) rfl rfl (by omega) (by omega) (by omega) (cl_ninit1 (by omega) (X11.cell List.mem_cons_self) (by omega)) ?_
  rintro rv g12 ⟨rfl, on10⟩
  have X12 := (X11.set on10 (by decide) (by omega) (fun q hq => ((List.mem_cons.mp hq).elim (fun e => by rw [e]; exact Nat.ne_of_lt y10) (fun hq => (by cases hq))))).swap
  refine ia_putf rfl (X12.cell List.mem_cons_self) (by omega) rfl rfl rfl rfl ?_
  refine ia_go 1 rfl ?_
  refine sb.gen (X12.set (fs' := [.int (nI 4), .ref g10.2, .null, .null, .null, .int 0, .int 0, .ref s0]) o1.up (by decide) (by omega) (fun q hq => ((List.mem_cons.mp hq).elim (fun e => by rw [e]; exact Nat.ne_of_gt y10) (fun hq => (by cases hq))))) (fun g13 X13 => ?_)
  have z13 := X13.size
  have y13 : h0.2 < g13.2 := X13.lt List.mem_cons_self
  have y10_13 : g10.2 < g13.2 := X13.lt (List.mem_cons_of_mem _ List.mem_cons_self)
  refine ia_new rfl rfl rfl (bc' := 0) (bs' := 0) (by omega) (by show 0 + 6 ≤ _; omega) ?_
  refine ia_go 3 rfl ?_
  refine sb.gen (X13.new (E := .inr (5, [.null, .int 0, .null, .null, .int 0, .null])) rfl ia_up_same (fun q hq => ia_up_ne hq)) (fun g14 X14 => ?_)
  refine ia_getf rfl ((X14.old x2 (by omega) (by omega) x3).trans ex) rfl ?_
  refine ia_go 2 rfl ?_
  refine ia_getf rfl ((X14.old x2 (by omega) (by omega) x3).trans ex) rfl ?_
  refine jd_cI g13.2 [.ref x, .int fr, .ref a10, .ref q] [.ref g13.2, .ref h0.2] 0 0 (d' := d - 1) rfl rfl rfl (X14.cell List.mem_cons_self) rfl rfl (by omega) (by omega) (by omega) (cl_ninit1 (by omega) (X14.cell List.mem_cons_self) (by omega)) ?_
  rintro rv g15 ⟨rfl, on13⟩
  have X15 := (X14.set on13 (by decide) (by omega) (fun q hq => ((List.mem_cons.mp hq).elim (fun e => by rw [e]; exact Nat.ne_of_lt y13) (fun hq => ((List.mem_cons.mp hq).elim (fun e => by rw [e]; exact Nat.ne_of_lt y10_13) (fun hq => (by cases hq))))))).swap
  refine ia_putf rfl (X15.cell List.mem_cons_self) (by omega) rfl rfl rfl rfl ?_
  refine sb.gen (X15.set (fs' := [.int (nI 4), .ref g10.2, .ref g13.2, .null, .null, .int 0, .int 0, .ref s0]) o1.up (by decide) (by omega) (fun q hq => ((List.mem_cons.mp hq).elim (fun e => by rw [e]; exact Nat.ne_of_gt y13) (fun hq => ((List.mem_cons.mp hq).elim (fun e => by rw [e]; exact Nat.ne_of_gt y10) (fun hq => (by cases hq))))))) (fun g16 X16 => ?_)
  exact jd_rv0 rfl rfl rfl ⟨rfl, a5, a10, _, _, y10, y10_13, X16⟩
theorem st_loop (hd : 7 ≤ d) (B : hb h0 v0 x fr p q s0 s1 s3) (hM : hm M p q s0 s1 s3 pT qT f0 f1 eT) (lp : pT.length ≤ 120) (lq : qT.length ≤ 120) (l0 : f0.length ≤ 120) (l1 : f1.length ≤ 120) (l3 : eT.length ≤ 120) (X0 : sb h0 u v0 [(h0.2, .inr (7, [.int (nI 5), .null, .null, .null, .null, .int 0, .int 0, .null]))] M P [] g0) : ia_Cn pg G kk_R_loop d 28 11062 [.ref 64, .ref h0.2, .ref x, .ref s0] g0 (fun rv h' => rv = none ∧ ∃ a b c e y1, h0.2 < y1 ∧ sb h0 u v0 [(h0.2, .inr (7, [.int (nI 5), .ref y1, .null, .ref c, .ref e, .int 0, .int 0, .ref s1])), (y1, .inr (5, [.ref x, .int fr, .ref a, .ref b, .int 0, .null]))] ((e, tk ([] ++ [62, 38] ++ f0 ++ [33] ++ f1 ++ qT)) :: (c, tk ([] ++ [62] ++ pT ++ f0)) :: (b, tk ([] ++ [38] ++ f0 ++ [60] ++ eT ++ [122])) :: (a, tk ([] ++ [38, 38] ++ f0 ++ f1 ++ [61] ++ eT ++ [122])) :: M) ((((P ∧ ([] ++ [38, 38] ++ f0 ++ f1 ++ [61] ++ eT ++ [122]).length ≤ 120) ∧ ([] ++ [38] ++ f0 ++ [60] ++ eT ++ [122]).length ≤ 120) ∧ ([] ++ [62] ++ pT ++ f0).length ≤ 120) ∧ ([] ++ [62, 38] ++ f0 ++ [33] ++ f1 ++ qT).length ≤ 120) [] h') := by
  obtain ⟨⟨fs64, e64⟩, ⟨f67, e67, g67⟩, ⟨e113, e114, e116⟩, ⟨pv, nn, stt, ex⟩, ⟨x1, x2, x3⟩, v01, h142⟩ := B
  obtain ⟨mc, mp, mq, m0, m1, m3⟩ := hM
  have m6 := mc (6, [62]) (by simp [cst])
  have m8 := mc (8, []) (by simp [cst])
  have m10 := mc (10, [38]) (by simp [cst])
  have m12 := mc (12, [33]) (by simp [cst])
  have m14 := mc (14, [38, 38]) (by simp [cst])
  have m16 := mc (16, [61]) (by simp [cst])
  have m18 := mc (18, [122]) (by simp [cst])
  have m20 := mc (20, [60]) (by simp [cst])
  have m22 := mc (22, [62, 38]) (by simp [cst])
  have zz := X0.size
  refine jd_met (ls := [.ref 64, .ref h0.2, .ref x, .ref s0, .retAddr 0, .retAddr 0, .retAddr 0, .retAddr 0]) rfl rfl rfl ?_
  refine ia_go 1 rfl ?_
  refine ia_getf rfl ((X0.old (by omega) (by omega) (by omega) (by omega)).trans e64) rfl ?_
  refine ia_go 1 rfl ?_
  refine ia_aald rfl ((X0.old (by omega) (by omega) (by omega) (by omega)).trans e67) (by unfold vp_in; decide) (v := .ref 114) (g67 1 (by omega)) ?_
  refine ia_getf rfl ((X0.old (by omega) (by omega) (by omega) (by omega)).trans e114) rfl ?_
  refine ia_go 1 rfl ?_
  dsimp only [ia_s1, ia_s2, ia_cl, ia_D, List.getElem?_cons_zero, List.getElem?_cons_succ, List.set_cons_zero, List.set_cons_succ]
  refine ia_go 1 rfl ?_
  refine ia_getf rfl ((X0.old (by omega) (by omega) (by omega) (by omega)).trans e64) rfl ?_
  refine ia_go 1 rfl ?_
  refine ia_aald rfl ((X0.old (by omega) (by omega) (by omega) (by omega)).trans e67) (by unfold vp_in; decide) (v := .ref 116) (g67 3 (by omega)) ?_
  refine ia_getf rfl ((X0.old (by omega) (by omega) (by omega) (by omega)).trans e116) rfl ?_
  refine ia_go 1 rfl ?_
  dsimp only [ia_s1, ia_s2, ia_cl, ia_D, List.getElem?_cons_zero, List.getElem?_cons_succ, List.set_cons_zero, List.set_cons_succ]
  refine ia_go 2 rfl ?_
  refine ia_putf rfl (X0.cell List.mem_cons_self) (by omega) rfl rfl rfl rfl ?_
  refine ia_go 1 rfl ?_
  refine sb.gen (X0.set (fs' := [.int (nI 5), .null, .null, .null, .null, .int 0, .int 0, .ref s1]) o1.up (by decide) (by omega) (fun q hq => (by cases hq))) (fun g1 X1 => ?_)
  refine ia_getf rfl ((X1.old (by omega) (by omega) (by omega) (by omega)).trans e64) rfl ?_
  refine ia_ldcwS rfl ?_
  obtain ⟨_, od1⟩ := X1.o
  refine jd_cV 69 [.ref 14] [] 1 480 (d' := d - 1) rfl rfl rfl od1 rfl rfl (by omega) (by omega) (by omega) (X1.put (by omega) m14 (by decide)) ?_
  rintro rv g2 ⟨rfl, X2⟩
  refine ia_go 1 rfl ?_
  obtain ⟨_, od2⟩ := X2.o
  refine jd_cV 69 [.ref s0] [] 1 480 (d' := d - 1) rfl rfl rfl od2 rfl rfl (by omega) (by omega) (by omega) (X2.put (by omega) m0 l0) ?_
  rintro rv g3 ⟨rfl, X3⟩
  refine ia_go 1 rfl ?_
  obtain ⟨_, od3⟩ := X3.o
  refine jd_cV 69 [.ref s1] [] 1 480 (d' := d - 1) rfl rfl rfl od3 rfl rfl (by omega) (by omega) (by omega) (X3.put (by omega) m1 l1) ?_
  rintro rv g4 ⟨rfl, X4⟩
  refine ia_ldcwS rfl ?_
  obtain ⟨_, od4⟩ := X4.o
  refine jd_cV 69 [.ref 16] [] 1 480 (d' := d - 1) rfl rfl rfl od4 rfl rfl (by omega) (by omega) (by omega) (X4.put (by omega) m16 (by decide)) ?_
  rintro rv g5 ⟨rfl, X5⟩
  refine ia_go 1 rfl ?_
  obtain ⟨_, od5⟩ := X5.o
  refine jd_cV 69 [.ref s3] [] 1 480 (d' := d - 1) rfl rfl rfl od5 rfl rfl (by omega) (by omega) (by omega) (X5.put (by omega) m3 l3) ?_
  rintro rv g6 ⟨rfl, X6⟩
  refine ia_ldcwS rfl ?_
  obtain ⟨_, od6⟩ := X6.o
  refine jd_cV 69 [.ref 18] [] 1 480 (d' := d - 1) rfl rfl rfl od6 rfl rfl (by omega) (by omega) (by omega) (X6.put (by omega) m18 (by decide)) ?_
  rintro rv g7 ⟨rfl, X7⟩
  obtain ⟨_, od7⟩ := X7.o
  refine jd_cV 69 [] [] 2 484 (d' := d - 1) rfl rfl rfl od7 rfl rfl (by omega) (by omega) (by omega) (X7.take (by omega) m8) ?_
  rintro rv g8 ⟨a8, rfl, X8⟩
  refine ia_go 1 rfl ?_
  dsimp only [ia_s1, ia_s2, ia_cl, ia_D, List.getElem?_cons_zero, List.getElem?_cons_succ, List.set_cons_zero, List.set_cons_succ]
  refine ia_go 1 rfl ?_
  refine ia_getf rfl ((X8.old (by omega) (by omega) (by omega) (by omega)).trans e64) rfl ?_
  refine ia_ldcwS rfl ?_
  obtain ⟨_, od8⟩ := X8.o
  refine jd_cV 69 [.ref 10] [] 1 480 (d' := d - 1) rfl rfl rfl od8 rfl rfl (by omega) (by omega) (by omega) (X8.put (by omega) (List.mem_cons_of_mem _ m10) (by decide)) ?_
  rintro rv g9 ⟨rfl, X9⟩
  refine ia_go 1 rfl ?_
  obtain ⟨_, od9⟩ := X9.o
  refine jd_cV 69 [.ref s0] [] 1 480 (d' := d - 1) rfl rfl rfl od9 rfl rfl (by omega) (by omega) (by omega) (X9.put (by omega) (List.mem_cons_of_mem _ m0) l0) ?_
  rintro rv g10 ⟨rfl, X10⟩
  refine ia_ldcwS rfl ?_
  obtain ⟨_, od10⟩ := X10.o
  refine jd_cV 69 [.ref 20] [] 1 480 (d' := d - 1) rfl rfl rfl od10 rfl rfl (by omega) (by omega) (by omega) (X10.put (by omega) (List.mem_cons_of_mem _ m20) (by decide)) ?_
  rintro rv g11 ⟨rfl, X11⟩
  refine ia_go 1 rfl ?_
  obtain ⟨_, od11⟩ := X11.o
  refine jd_cV 69 [.ref s3] [] 1 480 (d' := d - 1) rfl rfl rfl od11 rfl rfl (by omega) (by omega) (by omega) (X11.put (by omega) (List.mem_cons_of_mem _ m3) l3) ?_
  rintro rv g12 ⟨rfl, X12⟩
  refine ia_ldcwS rfl ?_
  obtain ⟨_, od12⟩ := X12.o
  refine jd_cV 69 [.ref 18] [] 1 480 (d' := d - 1) rfl rfl rfl od12 rfl rfl (by omega) (by omega) (by omega) (X12.put (by omega) (List.mem_cons_of_mem _ m18) (by decide)) ?_
  rintro rv g13 ⟨rfl, X13⟩
  obtain ⟨_, od13⟩ := X13.o
  refine jd_cV 69 [] [] 2 484 (d' := d - 1) rfl rfl rfl od13 rfl rfl (by omega) (by omega) (by omega) (X13.take (by omega) (List.mem_cons_of_mem _ m8)) ?_
  rintro rv g14 ⟨a14, rfl, X14⟩
  refine ia_go 1 rfl ?_
  dsimp only [ia_s1, ia_s2, ia_cl, ia_D, List.getElem?_cons_zero, List.getElem?_cons_succ, List.set_cons_zero, List.set_cons_succ]
  refine ia_go 1 rfl ?_
  have z14 := X14.size
  have y14 : h0.2 < g14.2 := X14.lt List.mem_cons_self
  refine ia_new rfl rfl rfl (bc' := 12) (bs' := 4808) (by omega) (by show 4808 + 6 ≤ _; omega) ?_
  refine ia_go 3 rfl ?_
  refine sb.gen (X14.new (E := .inr (5, [.null, .int 0, .null, .null, .int 0, .null])) rfl ia_up_same (fun q hq => ia_up_ne hq)) (fun g15 X15 => ?_)
  refine ia_getf rfl ((X15.old x2 (by omega) (by omega) x3).trans ex) rfl ?_
  refine ia_go 2 rfl ?_
  refine jd_cI g14.2 [.ref x, .int fr, .ref a8, .ref a14] [.ref g14.2, .ref h0.2] 0 0 (d' := d - 1) rfl rfl rfl (X15.cell List.mem_cons_self) rfl rfl (by omega) (by omega) (by omega) (cl_ninit1 (by omega) (X15.cell List.mem_cons_self) (by omega)) ?_
  rintro rv g16 ⟨rfl, on14⟩
  have X16 := (X15.set on14 (by decide) (by omega) (fun q hq => ((List.mem_cons.mp hq).elim (fun e => by rw [e]; exact Nat.ne_of_lt y14) (fun hq => (by cases hq))))).swap
  refine ia_putf rfl (X16.cell List.mem_cons_self) (by omega) rfl rfl rfl rfl ?_
  refine ia_go 2 rfl ?_
  refine sb.gen (X16.set (fs' := [.int (nI 5), .ref g14.2, .null, .null, .null, .int 0, .int 0, .ref s1]) o1.up (by decide) (by omega) (fun q hq => ((List.mem_cons.mp hq).elim (fun e => by rw [e]; exact Nat.ne_of_gt y14) (fun hq => (by cases hq))))) (fun g17 X17 => ?_)
  refine ia_getf rfl ((X17.old (by omega) (by omega) (by omega) (by omega)).trans e64) rfl ?_
  refine ia_ldcS rfl ?_
  obtain ⟨_, od17⟩ := X17.o
  refine jd_cV 69 [.ref 6] [.ref h0.2] 1 480 (d' := d - 1) rfl rfl rfl od17 rfl rfl (by omega) (by omega) (by omega) (X17.put (by omega) (List.mem_cons_of_mem _ (List.mem_cons_of_mem _ m6)) (by decide)) ?_
  rintro rv g18 ⟨rfl, X18⟩
  refine ia_go 1 rfl ?_
  refine ia_getf rfl ((X18.old x2 (by omega) (by omega) x3).trans ex) rfl ?_
  obtain ⟨_, od18⟩ := X18.o
  refine jd_cV 69 [.ref p] [.ref h0.2] 1 480 (d' := d - 1) rfl rfl rfl od18 rfl rfl (by omega) (by omega) (by omega) (X18.put (by omega) (List.mem_cons_of_mem _ (List.mem_cons_of_mem _ mp)) lp) ?_
  rintro rv g19 ⟨rfl, X19⟩
  refine ia_go 1 rfl ?_
  obtain ⟨_, od19⟩ := X19.o
  refine jd_cV 69 [.ref s0] [.ref h0.2] 1 480 (d' := d - 1) rfl rfl rfl od19 rfl rfl (by omega) (by omega) (by omega) (X19.put (by omega) (List.mem_cons_of_mem _ (List.mem_cons_of_mem _ m0)) l0) ?_
  rintro rv g20 ⟨rfl, X20⟩
  obtain ⟨_, od20⟩ := X20.o
  refine jd_cV 69 [] [.ref h0.2] 2 484 (d' := d - 1) rfl rfl rfl od20 rfl rfl (by omega) (by omega) (by omega) (X20.take (by omega) (List.mem_cons_of_mem _ (List.mem_cons_of_mem _ m8))) ?_
  rintro rv g21 ⟨a21, rfl, X21⟩
  refine ia_putf rfl (X21.cell List.mem_cons_self) (by omega) rfl rfl rfl rfl ?_
  refine ia_go 2 rfl ?_
  refine sb.gen (X21.set (fs' := [.int (nI 5), .ref g14.2, .null, .ref a21, .null, .int 0, .int 0, .ref s1]) o1.up (by decide) (by omega) (fun q hq => ((List.mem_cons.mp hq).elim (fun e => by rw [e]; exact Nat.ne_of_gt y14) (fun hq => (by cases hq))))) (fun g22 X22 => ?_)
  refine ia_getf rfl ((X22.old (by omega) (by omega) (by omega) (by omega)).trans e64) rfl ?_
  refine ia_ldcwS rfl ?_
  obtain ⟨_, od22⟩ := X22.o
  refine jd_cV 69 [.ref 22] [.ref h0.2] 1 480 (d' := d - 1) rfl rfl rfl od22 rfl rfl (by omega) (by omega) (by omega) (X22.put (by omega) (List.mem_cons_of_mem _ (List.mem_cons_of_mem _ (List.mem_cons_of_mem _ m22))) (by decide)) ?_
  rintro rv g23 ⟨rfl, X23⟩
  refine ia_go 1 rfl ?_
  obtain ⟨_, od23⟩ := X23.o
  refine jd_cV 69 [.ref s0] [.ref h0.2] 1 480 (d' := d - 1) rfl rfl rfl od23 rfl rfl (by omega) (by omega) (by omega) (X23.put (by omega) (List.mem_cons_of_mem _ (List.mem_cons_of_mem _ (List.mem_cons_of_mem _ m0))) l0) ?_
  rintro rv g24 ⟨rfl, X24⟩
  refine ia_ldcwS rfl ?_
  obtain ⟨_, od24⟩ := X24.o
  refine jd_cV 69 [.ref 12] [.ref h0.2] 1 480 (d' := d - 1) rfl rfl rfl od24 rfl rfl (by omega) (by omega) (by omega) (X24.put (by omega) (List.mem_cons_of_mem _ (List.mem_cons_of_mem _ (List.mem_cons_of_mem _ m12))) (by decide)) ?_
  rintro rv g25 ⟨rfl, X25⟩
  refine ia_go 1 rfl ?_
  obtain ⟨_, od25⟩ := X25.o
  refine jd_cV 69 [.ref s1] [.ref h0.2] 1 480 (d' := d - 1) rfl rfl rfl od25 rfl rfl (by omega) (by omega) (by omega) (X25.put (by omega) (List.mem_cons_of_mem _ (List.mem_cons_of_mem _ (List.mem_cons_of_mem _ m1))) l1) ?_
  rintro rv g26 ⟨rfl, X26⟩
  refine ia_go 1 rfl ?_
  refine ia_getf rfl ((X26.old x2 (by omega) (by omega) x3).trans ex) rfl ?_
  obtain ⟨_, od26⟩ := X26.o
  refine jd_cV 69 [.ref q] [.ref h0.2] 1 480 (d' := d - 1) rfl rfl rfl od26 rfl rfl (by omega) (by omega) (by omega) (X26.put (by omega) (List.mem_cons_of_mem _ (List.mem_cons_of_mem _ (List.mem_cons_of_mem _ mq))) lq) ?_
  rintro rv g27 ⟨rfl, X27⟩
  obtain ⟨_, od27⟩ := X27.o
  refine jd_cV 69 [] [.ref h0.2] 2 484 (d' := d - 1) rfl rfl rfl od27 rfl rfl (by omega) (by omega) (by omega) (X27.take (by omega) (List.mem_cons_of_mem _ (List.mem_cons_of_mem _ (List.mem_cons_of_mem _ m8)))) ?_
  rintro rv g28 ⟨a28, rfl, X28⟩
  refine ia_putf rfl (X28.cell List.mem_cons_self) (by omega) rfl rfl rfl rfl ?_
  refine sb.gen (X28.set (fs' := [.int (nI 5), .ref g14.2, .null, .ref a21, .ref a28, .int 0, .int 0, .ref s1]) o1.up (by decide) (by omega) (fun q hq => ((List.mem_cons.mp hq).elim (fun e => by rw [e]; exact Nat.ne_of_gt y14) (fun hq => (by cases hq))))) (fun g29 X29 => ?_)
  exact jd_rv0 rfl rfl rfl ⟨rfl, a8, a14, a21, a28, _, y14, X29⟩
theorem st_1 (hd : 8 ≤ d) (B : hb h0 v0 x fr p q s0 s1 s3) (hM : hm M p q s0 s1 s3 pT qT f0 f1 eT) (lp : pT.length ≤ 120) (lq : qT.length ≤ 120) (l0 : f0.length ≤ 120) (l1 : f1.length ≤ 120) (l3 : eT.length ≤ 120) (X0 : sb h0 u v0 [] M True [] h0) : ia_Cn pg G kk_R_stepBy d 29 11070 [.ref 64, .ref x, .int (nI 1), .int y] h0 (fun rv h' => rv = some (.ref h0.2) ∧ SR h0 u v0 x 1 y fr (rf_k 1 pT qT f0 f1 eT) (rf_c 1 y pT qT f0 f1 eT) (rf_g 1 f0 f1 eT) h') := by
  have hB := B
  have hM' := hM
  obtain ⟨⟨fs64, e64⟩, ⟨f67, e67, g67⟩, ⟨e113, e114, e116⟩, ⟨pv, nn, stt, ex⟩, ⟨x1, x2, x3⟩, v01, h142⟩ := B
  obtain ⟨mc, mp, mq, m0, m1, m3⟩ := hM
  have m6 := mc (6, [62]) (by simp [cst])
  have m8 := mc (8, []) (by simp [cst])
  have m10 := mc (10, [38]) (by simp [cst])
  have m12 := mc (12, [33]) (by simp [cst])
  have m14 := mc (14, [38, 38]) (by simp [cst])
  have m16 := mc (16, [61]) (by simp [cst])
  have m18 := mc (18, [122]) (by simp [cst])
  have m20 := mc (20, [60]) (by simp [cst])
  have m22 := mc (22, [62, 38]) (by simp [cst])
  refine jd_met (ls := [.ref 64, .ref x, .int (nI 1), .int y, .retAddr 0, .retAddr 0]) rfl rfl rfl ?_
  have z0 := X0.size
  refine ia_new rfl rfl rfl (bc' := 28) (bs' := 11062) (by omega) (by show 11062 + 8 ≤ _; omega) ?_
  refine ia_go 2 rfl ?_
  refine sb.gen (X0.new (E := .inr (7, [.int 0, .null, .null, .null, .null, .int 0, .int 0, .null])) rfl ia_up_same (fun q hq => ia_up_ne hq)) (fun g1 X1 => ?_)
  refine jd_cI h0.2 [.int (nI 1)] [.ref h0.2] 0 0 (d' := d - 1) rfl rfl rfl (X1.cell List.mem_cons_self) rfl rfl (by omega) (by omega) (by omega) (cl_pinit (by omega) (X1.cell List.mem_cons_self) (by omega)) ?_
  rintro rv g2 ⟨rfl, on⟩
  have X2 := X1.set on (by decide) (by omega) (fun q hq => by cases hq)
  refine ia_go 1 rfl ?_
  dsimp only [ia_s1, ia_s2, ia_cl, ia_D, List.getElem?_cons_zero, List.getElem?_cons_succ, List.set_cons_zero, List.set_cons_succ]
  refine ia_go 1 rfl ?_
  refine ia_getf rfl ((X2.old (by omega) (by omega) (by omega) (by omega)).trans e64) rfl ?_
  refine ia_go 1 rfl ?_
  refine ia_aald rfl ((X2.old (by omega) (by omega) (by omega) (by omega)).trans e67) (by unfold vp_in; decide) (v := .ref 113) (g67 0 (by omega)) ?_
  refine ia_getf rfl ((X2.old (by omega) (by omega) (by omega) (by omega)).trans e113) rfl ?_
  refine ia_go 1 rfl ?_
  dsimp only [ia_s1, ia_s2, ia_cl, ia_D, List.getElem?_cons_zero, List.getElem?_cons_succ, List.set_cons_zero, List.set_cons_succ]
  refine ia_go 2 rfl ?_
  skip
  refine ia_go 2 rfl ?_
  refine ia_getf rfl ((X2.old (by omega) (by omega) (by omega) (by omega)).trans e64) rfl ?_
  refine ia_ldcS rfl ?_
  obtain ⟨_, od2⟩ := X2.o
  refine jd_cV 69 [.ref 6] [.ref h0.2] 1 480 (d' := d - 1) rfl rfl rfl od2 rfl rfl (by omega) (by omega) (by omega) (X2.put (by omega) m6 (by decide)) ?_
  rintro rv g3 ⟨rfl, X3⟩
  refine ia_go 1 rfl ?_
  refine ia_getf rfl ((X3.old x2 (by omega) (by omega) x3).trans ex) rfl ?_
  obtain ⟨_, od3⟩ := X3.o
  refine jd_cV 69 [.ref p] [.ref h0.2] 1 480 (d' := d - 1) rfl rfl rfl od3 rfl rfl (by omega) (by omega) (by omega) (X3.put (by omega) mp lp) ?_
  rintro rv g4 ⟨rfl, X4⟩
  refine ia_go 1 rfl ?_
  refine ia_getf rfl ((X4.old x2 (by omega) (by omega) x3).trans ex) rfl ?_
  obtain ⟨_, od4⟩ := X4.o
  refine jd_cV 69 [.ref q] [.ref h0.2] 1 480 (d' := d - 1) rfl rfl rfl od4 rfl rfl (by omega) (by omega) (by omega) (X4.put (by omega) mq lq) ?_
  rintro rv g5 ⟨rfl, X5⟩
  obtain ⟨_, od5⟩ := X5.o
  refine jd_cV 69 [] [.ref h0.2] 2 484 (d' := d - 1) rfl rfl rfl od5 rfl rfl (by omega) (by omega) (by omega) (X5.take (by omega) m8) ?_
  rintro rv g6 ⟨a6, rfl, X6⟩
  refine ia_putf rfl (X6.cell List.mem_cons_self) (by omega) rfl rfl rfl rfl ?_
  refine sb.gen (X6.set (fs' := [.int (nI 1), .null, .null, .ref a6, .null, .int 0, .int 0, .null]) o1.up (by decide) (by omega) (fun q hq => (by cases hq))) (fun g7 X7 => ?_)
  refine ia_go 1 rfl ?_
  refine ia_go 1 rfl ?_
  refine jd_rv1 rfl rfl rfl trivial ⟨rfl, ?_⟩
  refine ⟨_, _, .null, .null, .ref a6, .null, 0, .null, X7.iff ?_ rfl, List.mem_cons_self, ⟨fun z => ?_, fun z => ?_⟩, ⟨fun z => ?_, fun z => ?_⟩, fun w hw => ?_, ⟨fun z => ?_, fun z => ?_⟩, ⟨fun z => ?_, fun z => ?_⟩, fun z => ?_, fun z => ?_⟩
  · simp [rf_k, rf_c]; try omega
  · exact absurd z (by decide)
  · rfl
  · exact absurd z (by decide)
  · rfl
  · cases hw
  · exact ⟨a6, rfl, by rw [show (rf_c 1 y pT qT f0 f1 eT).getD 0 [] = [] ++ [62] ++ pT ++ qT by simp [rf_c]]; exact List.mem_cons_self⟩
  · exact absurd (by decide) z
  · exact absurd z (by decide)
  · rfl
  · exact absurd z (by decide)
  · exact absurd z (by decide)
theorem st_3 (hd : 8 ≤ d) (B : hb h0 v0 x fr p q s0 s1 s3) (hM : hm M p q s0 s1 s3 pT qT f0 f1 eT) (lp : pT.length ≤ 120) (lq : qT.length ≤ 120) (l0 : f0.length ≤ 120) (l1 : f1.length ≤ 120) (l3 : eT.length ≤ 120) (X0 : sb h0 u v0 [] M True [] h0) : ia_Cn pg G kk_R_stepBy d 29 11070 [.ref 64, .ref x, .int (nI 3), .int y] h0 (fun rv h' => rv = some (.ref h0.2) ∧ SR h0 u v0 x 3 y fr (rf_k 3 pT qT f0 f1 eT) (rf_c 3 y pT qT f0 f1 eT) (rf_g 3 f0 f1 eT) h') := by
  have hB := B
  have hM' := hM
  obtain ⟨⟨fs64, e64⟩, ⟨f67, e67, g67⟩, ⟨e113, e114, e116⟩, ⟨pv, nn, stt, ex⟩, ⟨x1, x2, x3⟩, v01, h142⟩ := B
  obtain ⟨mc, mp, mq, m0, m1, m3⟩ := hM
  have m6 := mc (6, [62]) (by simp [cst])
  have m8 := mc (8, []) (by simp [cst])
  have m10 := mc (10, [38]) (by simp [cst])
  have m12 := mc (12, [33]) (by simp [cst])
  have m14 := mc (14, [38, 38]) (by simp [cst])
  have m16 := mc (16, [61]) (by simp [cst])
  have m18 := mc (18, [122]) (by simp [cst])
  have m20 := mc (20, [60]) (by simp [cst])
  have m22 := mc (22, [62, 38]) (by simp [cst])
  refine jd_met (ls := [.ref 64, .ref x, .int (nI 3), .int y, .retAddr 0, .retAddr 0]) rfl rfl rfl ?_
  have z0 := X0.size
  refine ia_new rfl rfl rfl (bc' := 28) (bs' := 11062) (by omega) (by show 11062 + 8 ≤ _; omega) ?_
  refine ia_go 2 rfl ?_
  refine sb.gen (X0.new (E := .inr (7, [.int 0, .null, .null, .null, .null, .int 0, .int 0, .null])) rfl ia_up_same (fun q hq => ia_up_ne hq)) (fun g1 X1 => ?_)
  refine jd_cI h0.2 [.int (nI 3)] [.ref h0.2] 0 0 (d' := d - 1) rfl rfl rfl (X1.cell List.mem_cons_self) rfl rfl (by omega) (by omega) (by omega) (cl_pinit (by omega) (X1.cell List.mem_cons_self) (by omega)) ?_
  rintro rv g2 ⟨rfl, on⟩
  have X2 := X1.set on (by decide) (by omega) (fun q hq => by cases hq)
  refine ia_go 1 rfl ?_
  dsimp only [ia_s1, ia_s2, ia_cl, ia_D, List.getElem?_cons_zero, List.getElem?_cons_succ, List.set_cons_zero, List.set_cons_succ]
  refine ia_go 1 rfl ?_
  refine ia_getf rfl ((X2.old (by omega) (by omega) (by omega) (by omega)).trans e64) rfl ?_
  refine ia_go 1 rfl ?_
  refine ia_aald rfl ((X2.old (by omega) (by omega) (by omega) (by omega)).trans e67) (by unfold vp_in; decide) (v := .ref 113) (g67 0 (by omega)) ?_
  refine ia_getf rfl ((X2.old (by omega) (by omega) (by omega) (by omega)).trans e113) rfl ?_
  refine ia_go 1 rfl ?_
  dsimp only [ia_s1, ia_s2, ia_cl, ia_D, List.getElem?_cons_zero, List.getElem?_cons_succ, List.set_cons_zero, List.set_cons_succ]
  refine ia_go 2 rfl ?_
  skip
  refine ia_go 1 rfl ?_
  have z2 := X2.size
  have y2 : h0.2 < g2.2 := X2.lt List.mem_cons_self
  refine ia_new rfl rfl rfl (bc' := 27) (bs' := 11056) (by omega) (by show 11056 + 6 ≤ _; omega) ?_
  refine ia_go 3 rfl ?_
  refine sb.gen (X2.new (E := .inr (5, [.null, .int 0, .null, .null, .int 0, .null])) rfl ia_up_same (fun q hq => ia_up_ne hq)) (fun g3 X3 => ?_)
  refine ia_getf rfl ((X3.old x2 (by omega) (by omega) x3).trans ex) rfl ?_
  refine ia_go 1 rfl ?_
  refine ia_getf rfl ((X3.old x2 (by omega) (by omega) x3).trans ex) rfl ?_
  refine ia_go 1 rfl ?_
  refine jd_cI g2.2 [.ref x, .int fr, .ref p, .ref s0] [.ref g2.2, .ref h0.2] 0 0 (d' := d - 1) rfl rfl rfl (X3.cell List.mem_cons_self) rfl rfl (by omega) (by omega) (by omega) (cl_ninit1 (by omega) (X3.cell List.mem_cons_self) (by omega)) ?_
  rintro rv g4 ⟨rfl, on2⟩
  have X4 := (X3.set on2 (by decide) (by omega) (fun q hq => ((List.mem_cons.mp hq).elim (fun e => by rw [e]; exact Nat.ne_of_lt y2) (fun hq => (by cases hq))))).swap
  refine ia_putf rfl (X4.cell List.mem_cons_self) (by omega) rfl rfl rfl rfl ?_
  refine ia_go 1 rfl ?_
  refine sb.gen (X4.set (fs' := [.int (nI 3), .ref g2.2, .null, .null, .null, .int 0, .int 0, .null]) o1.up (by decide) (by omega) (fun q hq => ((List.mem_cons.mp hq).elim (fun e => by rw [e]; exact Nat.ne_of_gt y2) (fun hq => (by cases hq))))) (fun g5 X5 => ?_)
  have z5 := X5.size
  have y5 : h0.2 < g5.2 := X5.lt List.mem_cons_self
  have y2_5 : g2.2 < g5.2 := X5.lt (List.mem_cons_of_mem _ List.mem_cons_self)
  refine ia_new rfl rfl rfl (bc' := 26) (bs' := 11050) (by omega) (by show 11050 + 6 ≤ _; omega) ?_
  refine ia_go 3 rfl ?_
  refine sb.gen (X5.new (E := .inr (5, [.null, .int 0, .null, .null, .int 0, .null])) rfl ia_up_same (fun q hq => ia_up_ne hq)) (fun g6 X6 => ?_)
  refine ia_getf rfl ((X6.old x2 (by omega) (by omega) x3).trans ex) rfl ?_
  refine ia_go 2 rfl ?_
  refine ia_getf rfl ((X6.old x2 (by omega) (by omega) x3).trans ex) rfl ?_
  refine jd_cI g5.2 [.ref x, .int fr, .ref s0, .ref q] [.ref g5.2, .ref h0.2] 0 0 (d' := d - 1) rfl rfl rfl (X6.cell List.mem_cons_self) rfl rfl (by omega) (by omega) (by omega) (cl_ninit1 (by omega) (X6.cell List.mem_cons_self) (by omega)) ?_
  rintro rv g7 ⟨rfl, on5⟩
  have X7 := (X6.set on5 (by decide) (by omega) (fun q hq => ((List.mem_cons.mp hq).elim (fun e => by rw [e]; exact Nat.ne_of_lt y5) (fun hq => ((List.mem_cons.mp hq).elim (fun e => by rw [e]; exact Nat.ne_of_lt y2_5) (fun hq => (by cases hq))))))).swap
  refine ia_putf rfl (X7.cell List.mem_cons_self) (by omega) rfl rfl rfl rfl ?_
  refine sb.gen (X7.set (fs' := [.int (nI 3), .ref g2.2, .ref g5.2, .null, .null, .int 0, .int 0, .null]) o1.up (by decide) (by omega) (fun q hq => ((List.mem_cons.mp hq).elim (fun e => by rw [e]; exact Nat.ne_of_gt y5) (fun hq => ((List.mem_cons.mp hq).elim (fun e => by rw [e]; exact Nat.ne_of_gt y2) (fun hq => (by cases hq))))))) (fun g8 X8 => ?_)
  refine ia_go 1 rfl ?_
  refine ia_go 1 rfl ?_
  refine jd_rv1 rfl rfl rfl trivial ⟨rfl, ?_⟩
  refine ⟨_, _, .ref g2.2, .ref g5.2, .null, .null, 0, .null, X8.iff ?_ rfl, List.mem_cons_self, ⟨fun z => ?_, fun z => ?_⟩, ⟨fun z => ?_, fun z => ?_⟩, fun w hw => ?_, ⟨fun z => ?_, fun z => ?_⟩, ⟨fun z => ?_, fun z => ?_⟩, fun z => ?_, fun z => ?_⟩
  · simp [rf_k, rf_c]; exact ⟨lp, l0, lq⟩
  · exact ⟨_, _, _, rfl, List.mem_cons_of_mem _ (List.mem_cons_of_mem _ List.mem_cons_self), by show (p, tk pT) ∈ M; rw [tk_le lp]; exact mp, by show (s0, tk f0) ∈ M; rw [tk_le l0]; exact m0, y2⟩
  · exact absurd (by decide) z
  · exact ⟨_, _, _, rfl, List.mem_cons_of_mem _ List.mem_cons_self, by show (s0, tk f0) ∈ M; rw [tk_le l0]; exact m0, by show (q, tk qT) ∈ M; rw [tk_le lq]; exact mq, y5⟩
  · exact absurd (by decide) z
  · intro w2; cases hw; have e9 : ∀ a b : Nat, Value.ref a = Value.ref b → a = b := fun a b e => Value.ref.inj e; have := e9 _ _ w2; have := y2_5; omega
  · exact absurd z (by decide)
  · rfl
  · exact absurd z (by decide)
  · rfl
  · exact absurd z (by decide)
  · exact absurd z (by decide)
theorem st_6 (hd : 8 ≤ d) (B : hb h0 v0 x fr p q s0 s1 s3) (hM : hm M p q s0 s1 s3 pT qT f0 f1 eT) (lp : pT.length ≤ 120) (lq : qT.length ≤ 120) (l0 : f0.length ≤ 120) (l1 : f1.length ≤ 120) (l3 : eT.length ≤ 120) (X0 : sb h0 u v0 [] M True [] h0) : ia_Cn pg G kk_R_stepBy d 29 11070 [.ref 64, .ref x, .int (nI 6), .int y] h0 (fun rv h' => rv = some (.ref h0.2) ∧ SR h0 u v0 x 6 y fr (rf_k 6 pT qT f0 f1 eT) (rf_c 6 y pT qT f0 f1 eT) (rf_g 6 f0 f1 eT) h') := by
  have hB := B
  have hM' := hM
  obtain ⟨⟨fs64, e64⟩, ⟨f67, e67, g67⟩, ⟨e113, e114, e116⟩, ⟨pv, nn, stt, ex⟩, ⟨x1, x2, x3⟩, v01, h142⟩ := B
  obtain ⟨mc, mp, mq, m0, m1, m3⟩ := hM
  have m6 := mc (6, [62]) (by simp [cst])
  have m8 := mc (8, []) (by simp [cst])
  have m10 := mc (10, [38]) (by simp [cst])
  have m12 := mc (12, [33]) (by simp [cst])
  have m14 := mc (14, [38, 38]) (by simp [cst])
  have m16 := mc (16, [61]) (by simp [cst])
  have m18 := mc (18, [122]) (by simp [cst])
  have m20 := mc (20, [60]) (by simp [cst])
  have m22 := mc (22, [62, 38]) (by simp [cst])
  refine jd_met (ls := [.ref 64, .ref x, .int (nI 6), .int y, .retAddr 0, .retAddr 0]) rfl rfl rfl ?_
  have z0 := X0.size
  refine ia_new rfl rfl rfl (bc' := 28) (bs' := 11062) (by omega) (by show 11062 + 8 ≤ _; omega) ?_
  refine ia_go 2 rfl ?_
  refine sb.gen (X0.new (E := .inr (7, [.int 0, .null, .null, .null, .null, .int 0, .int 0, .null])) rfl ia_up_same (fun q hq => ia_up_ne hq)) (fun g1 X1 => ?_)
  refine jd_cI h0.2 [.int (nI 6)] [.ref h0.2] 0 0 (d' := d - 1) rfl rfl rfl (X1.cell List.mem_cons_self) rfl rfl (by omega) (by omega) (by omega) (cl_pinit (by omega) (X1.cell List.mem_cons_self) (by omega)) ?_
  rintro rv g2 ⟨rfl, on⟩
  have X2 := X1.set on (by decide) (by omega) (fun q hq => by cases hq)
  refine ia_go 1 rfl ?_
  dsimp only [ia_s1, ia_s2, ia_cl, ia_D, List.getElem?_cons_zero, List.getElem?_cons_succ, List.set_cons_zero, List.set_cons_succ]
  refine ia_go 1 rfl ?_
  refine ia_getf rfl ((X2.old (by omega) (by omega) (by omega) (by omega)).trans e64) rfl ?_
  refine ia_go 1 rfl ?_
  refine ia_aald rfl ((X2.old (by omega) (by omega) (by omega) (by omega)).trans e67) (by unfold vp_in; decide) (v := .ref 113) (g67 0 (by omega)) ?_
  refine ia_getf rfl ((X2.old (by omega) (by omega) (by omega) (by omega)).trans e113) rfl ?_
  refine ia_go 1 rfl ?_
  dsimp only [ia_s1, ia_s2, ia_cl, ia_D, List.getElem?_cons_zero, List.getElem?_cons_succ, List.set_cons_zero, List.set_cons_succ]
  refine ia_go 2 rfl ?_
  skip
  refine ia_go 1 rfl ?_
  have z2 := X2.size
  have y2 : h0.2 < g2.2 := X2.lt List.mem_cons_self
  refine ia_new rfl rfl rfl (bc' := 27) (bs' := 11056) (by omega) (by show 11056 + 6 ≤ _; omega) ?_
  refine ia_go 3 rfl ?_
  refine sb.gen (X2.new (E := .inr (5, [.null, .int 0, .null, .null, .int 0, .null])) rfl ia_up_same (fun q hq => ia_up_ne hq)) (fun g3 X3 => ?_)
  refine ia_getf rfl ((X3.old x2 (by omega) (by omega) x3).trans ex) rfl ?_
  refine ia_go 1 rfl ?_
  refine ia_getf rfl ((X3.old x2 (by omega) (by omega) x3).trans ex) rfl ?_
  refine ia_go 1 rfl ?_
  refine jd_cI g2.2 [.ref x, .int fr, .ref p, .ref s0] [.ref g2.2, .ref h0.2] 0 0 (d' := d - 1) rfl rfl rfl (X3.cell List.mem_cons_self) rfl rfl (by omega) (by omega) (by omega) (cl_ninit1 (by omega) (X3.cell List.mem_cons_self) (by omega)) ?_
  rintro rv g4 ⟨rfl, on2⟩
  have X4 := (X3.set on2 (by decide) (by omega) (fun q hq => ((List.mem_cons.mp hq).elim (fun e => by rw [e]; exact Nat.ne_of_lt y2) (fun hq => (by cases hq))))).swap
  refine ia_putf rfl (X4.cell List.mem_cons_self) (by omega) rfl rfl rfl rfl ?_
  refine ia_go 2 rfl ?_
  refine sb.gen (X4.set (fs' := [.int (nI 6), .ref g2.2, .null, .null, .null, .int 0, .int 0, .null]) o1.up (by decide) (by omega) (fun q hq => ((List.mem_cons.mp hq).elim (fun e => by rw [e]; exact Nat.ne_of_gt y2) (fun hq => (by cases hq))))) (fun g5 X5 => ?_)
  refine ia_getf rfl ((X5.old (by omega) (by omega) (by omega) (by omega)).trans e64) rfl ?_
  refine ia_ldcS rfl ?_
  obtain ⟨_, od5⟩ := X5.o
  refine jd_cV 69 [.ref 6] [.ref h0.2] 1 480 (d' := d - 1) rfl rfl rfl od5 rfl rfl (by omega) (by omega) (by omega) (X5.put (by omega) m6 (by decide)) ?_
  rintro rv g6 ⟨rfl, X6⟩
  refine ia_go 1 rfl ?_
  obtain ⟨_, od6⟩ := X6.o
  refine jd_cV 69 [.ref s0] [.ref h0.2] 1 480 (d' := d - 1) rfl rfl rfl od6 rfl rfl (by omega) (by omega) (by omega) (X6.put (by omega) m0 l0) ?_
  rintro rv g7 ⟨rfl, X7⟩
  refine ia_go 1 rfl ?_
  refine ia_getf rfl ((X7.old x2 (by omega) (by omega) x3).trans ex) rfl ?_
  obtain ⟨_, od7⟩ := X7.o
  refine jd_cV 69 [.ref q] [.ref h0.2] 1 480 (d' := d - 1) rfl rfl rfl od7 rfl rfl (by omega) (by omega) (by omega) (X7.put (by omega) mq lq) ?_
  rintro rv g8 ⟨rfl, X8⟩
  obtain ⟨_, od8⟩ := X8.o
  refine jd_cV 69 [] [.ref h0.2] 2 484 (d' := d - 1) rfl rfl rfl od8 rfl rfl (by omega) (by omega) (by omega) (X8.take (by omega) m8) ?_
  rintro rv g9 ⟨a9, rfl, X9⟩
  refine ia_putf rfl (X9.cell List.mem_cons_self) (by omega) rfl rfl rfl rfl ?_
  refine sb.gen (X9.set (fs' := [.int (nI 6), .ref g2.2, .null, .ref a9, .null, .int 0, .int 0, .null]) o1.up (by decide) (by omega) (fun q hq => ((List.mem_cons.mp hq).elim (fun e => by rw [e]; exact Nat.ne_of_gt y2) (fun hq => (by cases hq))))) (fun g10 X10 => ?_)
  refine ia_go 1 rfl ?_
  refine ia_go 1 rfl ?_
  refine jd_rv1 rfl rfl rfl trivial ⟨rfl, ?_⟩
  refine ⟨_, _, .ref g2.2, .null, .ref a9, .null, 0, .null, X10.iff ?_ rfl, List.mem_cons_self, ⟨fun z => ?_, fun z => ?_⟩, ⟨fun z => ?_, fun z => ?_⟩, fun w hw => ?_, ⟨fun z => ?_, fun z => ?_⟩, ⟨fun z => ?_, fun z => ?_⟩, fun z => ?_, fun z => ?_⟩
  · simp [rf_k, rf_c]; omega
  · exact ⟨_, _, _, rfl, List.mem_cons_of_mem _ List.mem_cons_self, List.mem_cons_of_mem _ (by show (p, tk pT) ∈ M; rw [tk_le lp]; exact mp), List.mem_cons_of_mem _ (by show (s0, tk f0) ∈ M; rw [tk_le l0]; exact m0), y2⟩
  · exact absurd (by decide) z
  · exact absurd z (by decide)
  · rfl
  · intro w2; cases w2
  · exact ⟨a9, rfl, by rw [show (rf_c 6 y pT qT f0 f1 eT).getD 0 [] = [] ++ [62] ++ f0 ++ qT by simp [rf_c]]; exact List.mem_cons_self⟩
  · exact absurd (by decide) z
  · exact absurd z (by decide)
  · rfl
  · exact absurd z (by decide)
  · exact absurd z (by decide)
theorem st_7 (hd : 8 ≤ d) (B : hb h0 v0 x fr p q s0 s1 s3) (hM : hm M p q s0 s1 s3 pT qT f0 f1 eT) (lp : pT.length ≤ 120) (lq : qT.length ≤ 120) (l0 : f0.length ≤ 120) (l1 : f1.length ≤ 120) (l3 : eT.length ≤ 120) (X0 : sb h0 u v0 [] M True [] h0) : ia_Cn pg G kk_R_stepBy d 29 11070 [.ref 64, .ref x, .int (nI 7), .int y] h0 (fun rv h' => rv = some (.ref h0.2) ∧ SR h0 u v0 x 7 y fr (rf_k 7 pT qT f0 f1 eT) (rf_c 7 y pT qT f0 f1 eT) (rf_g 7 f0 f1 eT) h') := by
  have hB := B
  have hM' := hM
  obtain ⟨⟨fs64, e64⟩, ⟨f67, e67, g67⟩, ⟨e113, e114, e116⟩, ⟨pv, nn, stt, ex⟩, ⟨x1, x2, x3⟩, v01, h142⟩ := B
  obtain ⟨mc, mp, mq, m0, m1, m3⟩ := hM
  have m6 := mc (6, [62]) (by simp [cst])
  have m8 := mc (8, []) (by simp [cst])
  have m10 := mc (10, [38]) (by simp [cst])
  have m12 := mc (12, [33]) (by simp [cst])
  have m14 := mc (14, [38, 38]) (by simp [cst])
  have m16 := mc (16, [61]) (by simp [cst])
  have m18 := mc (18, [122]) (by simp [cst])
  have m20 := mc (20, [60]) (by simp [cst])
  have m22 := mc (22, [62, 38]) (by simp [cst])
  refine jd_met (ls := [.ref 64, .ref x, .int (nI 7), .int y, .retAddr 0, .retAddr 0]) rfl rfl rfl ?_
  have z0 := X0.size
  refine ia_new rfl rfl rfl (bc' := 28) (bs' := 11062) (by omega) (by show 11062 + 8 ≤ _; omega) ?_
  refine ia_go 2 rfl ?_
  refine sb.gen (X0.new (E := .inr (7, [.int 0, .null, .null, .null, .null, .int 0, .int 0, .null])) rfl ia_up_same (fun q hq => ia_up_ne hq)) (fun g1 X1 => ?_)
  refine jd_cI h0.2 [.int (nI 7)] [.ref h0.2] 0 0 (d' := d - 1) rfl rfl rfl (X1.cell List.mem_cons_self) rfl rfl (by omega) (by omega) (by omega) (cl_pinit (by omega) (X1.cell List.mem_cons_self) (by omega)) ?_
  rintro rv g2 ⟨rfl, on⟩
  have X2 := X1.set on (by decide) (by omega) (fun q hq => by cases hq)
  refine ia_go 1 rfl ?_
  dsimp only [ia_s1, ia_s2, ia_cl, ia_D, List.getElem?_cons_zero, List.getElem?_cons_succ, List.set_cons_zero, List.set_cons_succ]
  refine ia_go 1 rfl ?_
  refine ia_getf rfl ((X2.old (by omega) (by omega) (by omega) (by omega)).trans e64) rfl ?_
  refine ia_go 1 rfl ?_
  refine ia_aald rfl ((X2.old (by omega) (by omega) (by omega) (by omega)).trans e67) (by unfold vp_in; decide) (v := .ref 113) (g67 0 (by omega)) ?_
  refine ia_getf rfl ((X2.old (by omega) (by omega) (by omega) (by omega)).trans e113) rfl ?_
  refine ia_go 1 rfl ?_
  dsimp only [ia_s1, ia_s2, ia_cl, ia_D, List.getElem?_cons_zero, List.getElem?_cons_succ, List.set_cons_zero, List.set_cons_succ]
  refine ia_go 2 rfl ?_
  skip
  refine ia_go 1 rfl ?_
  have z2 := X2.size
  have y2 : h0.2 < g2.2 := X2.lt List.mem_cons_self
  refine ia_new rfl rfl rfl (bc' := 27) (bs' := 11056) (by omega) (by show 11056 + 6 ≤ _; omega) ?_
  refine ia_go 3 rfl ?_
  refine sb.gen (X2.new (E := .inr (5, [.null, .int 0, .null, .null, .int 0, .null])) rfl ia_up_same (fun q hq => ia_up_ne hq)) (fun g3 X3 => ?_)
  refine ia_getf rfl ((X3.old x2 (by omega) (by omega) x3).trans ex) rfl ?_
  refine ia_go 2 rfl ?_
  refine ia_getf rfl ((X3.old x2 (by omega) (by omega) x3).trans ex) rfl ?_
  refine jd_cI g2.2 [.ref x, .int fr, .ref s0, .ref q] [.ref g2.2, .ref h0.2] 0 0 (d' := d - 1) rfl rfl rfl (X3.cell List.mem_cons_self) rfl rfl (by omega) (by omega) (by omega) (cl_ninit1 (by omega) (X3.cell List.mem_cons_self) (by omega)) ?_
  rintro rv g4 ⟨rfl, on2⟩
  have X4 := (X3.set on2 (by decide) (by omega) (fun q hq => ((List.mem_cons.mp hq).elim (fun e => by rw [e]; exact Nat.ne_of_lt y2) (fun hq => (by cases hq))))).swap
  refine ia_putf rfl (X4.cell List.mem_cons_self) (by omega) rfl rfl rfl rfl ?_
  refine ia_go 2 rfl ?_
  refine sb.gen (X4.set (fs' := [.int (nI 7), .ref g2.2, .null, .null, .null, .int 0, .int 0, .null]) o1.up (by decide) (by omega) (fun q hq => ((List.mem_cons.mp hq).elim (fun e => by rw [e]; exact Nat.ne_of_gt y2) (fun hq => (by cases hq))))) (fun g5 X5 => ?_)
  refine ia_getf rfl ((X5.old (by omega) (by omega) (by omega) (by omega)).trans e64) rfl ?_
  refine ia_ldcS rfl ?_
  obtain ⟨_, od5⟩ := X5.o
  refine jd_cV 69 [.ref 6] [.ref h0.2] 1 480 (d' := d - 1) rfl rfl rfl od5 rfl rfl (by omega) (by omega) (by omega) (X5.put (by omega) m6 (by decide)) ?_
  rintro rv g6 ⟨rfl, X6⟩
  refine ia_go 1 rfl ?_
  refine ia_getf rfl ((X6.old x2 (by omega) (by omega) x3).trans ex) rfl ?_
  obtain ⟨_, od6⟩ := X6.o
  refine jd_cV 69 [.ref p] [.ref h0.2] 1 480 (d' := d - 1) rfl rfl rfl od6 rfl rfl (by omega) (by omega) (by omega) (X6.put (by omega) mp lp) ?_
  rintro rv g7 ⟨rfl, X7⟩
  refine ia_go 1 rfl ?_
  obtain ⟨_, od7⟩ := X7.o
  refine jd_cV 69 [.ref s0] [.ref h0.2] 1 480 (d' := d - 1) rfl rfl rfl od7 rfl rfl (by omega) (by omega) (by omega) (X7.put (by omega) m0 l0) ?_
  rintro rv g8 ⟨rfl, X8⟩
  obtain ⟨_, od8⟩ := X8.o
  refine jd_cV 69 [] [.ref h0.2] 2 484 (d' := d - 1) rfl rfl rfl od8 rfl rfl (by omega) (by omega) (by omega) (X8.take (by omega) m8) ?_
  rintro rv g9 ⟨a9, rfl, X9⟩
  refine ia_putf rfl (X9.cell List.mem_cons_self) (by omega) rfl rfl rfl rfl ?_
  refine sb.gen (X9.set (fs' := [.int (nI 7), .ref g2.2, .null, .ref a9, .null, .int 0, .int 0, .null]) o1.up (by decide) (by omega) (fun q hq => ((List.mem_cons.mp hq).elim (fun e => by rw [e]; exact Nat.ne_of_gt y2) (fun hq => (by cases hq))))) (fun g10 X10 => ?_)
  refine ia_go 1 rfl ?_
  refine ia_go 1 rfl ?_
  refine jd_rv1 rfl rfl rfl trivial ⟨rfl, ?_⟩
  refine ⟨_, _, .ref g2.2, .null, .ref a9, .null, 0, .null, X10.iff ?_ rfl, List.mem_cons_self, ⟨fun z => ?_, fun z => ?_⟩, ⟨fun z => ?_, fun z => ?_⟩, fun w hw => ?_, ⟨fun z => ?_, fun z => ?_⟩, ⟨fun z => ?_, fun z => ?_⟩, fun z => ?_, fun z => ?_⟩
  · simp [rf_k, rf_c]; omega
  · exact ⟨_, _, _, rfl, List.mem_cons_of_mem _ List.mem_cons_self, List.mem_cons_of_mem _ (by show (s0, tk f0) ∈ M; rw [tk_le l0]; exact m0), List.mem_cons_of_mem _ (by show (q, tk qT) ∈ M; rw [tk_le lq]; exact mq), y2⟩
  · exact absurd (by decide) z
  · exact absurd z (by decide)
  · rfl
  · intro w2; cases w2
  · exact ⟨a9, rfl, by rw [show (rf_c 7 y pT qT f0 f1 eT).getD 0 [] = [] ++ [62] ++ pT ++ f0 by simp [rf_c]]; exact List.mem_cons_self⟩
  · exact absurd (by decide) z
  · exact absurd z (by decide)
  · rfl
  · exact absurd z (by decide)
  · exact absurd z (by decide)
theorem st_8 (hd : 8 ≤ d) (B : hb h0 v0 x fr p q s0 s1 s3) (hM : hm M p q s0 s1 s3 pT qT f0 f1 eT) (lp : pT.length ≤ 120) (lq : qT.length ≤ 120) (l0 : f0.length ≤ 120) (l1 : f1.length ≤ 120) (l3 : eT.length ≤ 120) (X0 : sb h0 u v0 [] M True [] h0) : ia_Cn pg G kk_R_stepBy d 29 11070 [.ref 64, .ref x, .int (nI 8), .int y] h0 (fun rv h' => rv = some (.ref h0.2) ∧ SR h0 u v0 x 8 y fr (rf_k 8 pT qT f0 f1 eT) (rf_c 8 y pT qT f0 f1 eT) (rf_g 8 f0 f1 eT) h') := by
  have hB := B
  have hM' := hM
  obtain ⟨⟨fs64, e64⟩, ⟨f67, e67, g67⟩, ⟨e113, e114, e116⟩, ⟨pv, nn, stt, ex⟩, ⟨x1, x2, x3⟩, v01, h142⟩ := B
  obtain ⟨mc, mp, mq, m0, m1, m3⟩ := hM
  have m6 := mc (6, [62]) (by simp [cst])
  have m8 := mc (8, []) (by simp [cst])
  have m10 := mc (10, [38]) (by simp [cst])
  have m12 := mc (12, [33]) (by simp [cst])
  have m14 := mc (14, [38, 38]) (by simp [cst])
  have m16 := mc (16, [61]) (by simp [cst])
  have m18 := mc (18, [122]) (by simp [cst])
  have m20 := mc (20, [60]) (by simp [cst])
  have m22 := mc (22, [62, 38]) (by simp [cst])
  refine jd_met (ls := [.ref 64, .ref x, .int (nI 8), .int y, .retAddr 0, .retAddr 0]) rfl rfl rfl ?_
  have z0 := X0.size
  refine ia_new rfl rfl rfl (bc' := 28) (bs' := 11062) (by omega) (by show 11062 + 8 ≤ _; omega) ?_
  refine ia_go 2 rfl ?_
  refine sb.gen (X0.new (E := .inr (7, [.int 0, .null, .null, .null, .null, .int 0, .int 0, .null])) rfl ia_up_same (fun q hq => ia_up_ne hq)) (fun g1 X1 => ?_)
  refine jd_cI h0.2 [.int (nI 8)] [.ref h0.2] 0 0 (d' := d - 1) rfl rfl rfl (X1.cell List.mem_cons_self) rfl rfl (by omega) (by omega) (by omega) (cl_pinit (by omega) (X1.cell List.mem_cons_self) (by omega)) ?_
  rintro rv g2 ⟨rfl, on⟩
  have X2 := X1.set on (by decide) (by omega) (fun q hq => by cases hq)
  refine ia_go 1 rfl ?_
  dsimp only [ia_s1, ia_s2, ia_cl, ia_D, List.getElem?_cons_zero, List.getElem?_cons_succ, List.set_cons_zero, List.set_cons_succ]
  refine ia_go 1 rfl ?_
  refine ia_getf rfl ((X2.old (by omega) (by omega) (by omega) (by omega)).trans e64) rfl ?_
  refine ia_go 1 rfl ?_
  refine ia_aald rfl ((X2.old (by omega) (by omega) (by omega) (by omega)).trans e67) (by unfold vp_in; decide) (v := .ref 113) (g67 0 (by omega)) ?_
  refine ia_getf rfl ((X2.old (by omega) (by omega) (by omega) (by omega)).trans e113) rfl ?_
  refine ia_go 1 rfl ?_
  dsimp only [ia_s1, ia_s2, ia_cl, ia_D, List.getElem?_cons_zero, List.getElem?_cons_succ, List.set_cons_zero, List.set_cons_succ]
  refine ia_go 2 rfl ?_
  skip
  refine ia_go 1 rfl ?_
  have z2 := X2.size
  have y2 : h0.2 < g2.2 := X2.lt List.mem_cons_self
  refine ia_new rfl rfl rfl (bc' := 27) (bs' := 11056) (by omega) (by show 11056 + 6 ≤ _; omega) ?_
  refine ia_go 4 rfl ?_
  refine sb.gen (X2.new (E := .inr (5, [.null, .int 0, .null, .null, .int 0, .null])) rfl ia_up_same (fun q hq => ia_up_ne hq)) (fun g3 X3 => ?_)
  refine ia_getf rfl ((X3.old x2 (by omega) (by omega) x3).trans ex) rfl ?_
  refine ia_go 1 rfl ?_
  refine ia_getf rfl ((X3.old x2 (by omega) (by omega) x3).trans ex) rfl ?_
  refine jd_cI g2.2 [.ref x, .int y, .ref p, .ref q] [.ref g2.2, .ref h0.2] 0 0 (d' := d - 1) rfl rfl rfl (X3.cell List.mem_cons_self) rfl rfl (by omega) (by omega) (by omega) (cl_ninit1 (by omega) (X3.cell List.mem_cons_self) (by omega)) ?_
  rintro rv g4 ⟨rfl, on2⟩
  have X4 := (X3.set on2 (by decide) (by omega) (fun q hq => ((List.mem_cons.mp hq).elim (fun e => by rw [e]; exact Nat.ne_of_lt y2) (fun hq => (by cases hq))))).swap
  refine ia_putf rfl (X4.cell List.mem_cons_self) (by omega) rfl rfl rfl rfl ?_
  refine ia_go 1 rfl ?_
  refine sb.gen (X4.set (fs' := [.int (nI 8), .ref g2.2, .null, .null, .null, .int 0, .int 0, .null]) o1.up (by decide) (by omega) (fun q hq => ((List.mem_cons.mp hq).elim (fun e => by rw [e]; exact Nat.ne_of_gt y2) (fun hq => (by cases hq))))) (fun g5 X5 => ?_)
  refine jd_rv1 rfl rfl rfl trivial ⟨rfl, ?_⟩
  refine ⟨_, _, .ref g2.2, .null, .null, .null, 0, .null, X5.iff ?_ rfl, List.mem_cons_self, ⟨fun z => ?_, fun z => ?_⟩, ⟨fun z => ?_, fun z => ?_⟩, fun w hw => ?_, ⟨fun z => ?_, fun z => ?_⟩, ⟨fun z => ?_, fun z => ?_⟩, fun z => ?_, fun z => ?_⟩
  · simp [rf_k, rf_c]; exact ⟨lp, lq⟩
  · exact ⟨_, _, _, rfl, List.mem_cons_of_mem _ List.mem_cons_self, by show (p, tk pT) ∈ M; rw [tk_le lp]; exact mp, by show (q, tk qT) ∈ M; rw [tk_le lq]; exact mq, y2⟩
  · exact absurd (by decide) z
  · exact absurd z (by decide)
  · rfl
  · intro w2; cases w2
  · exact absurd z (by decide)
  · rfl
  · exact absurd z (by decide)
  · rfl
  · exact absurd z (by decide)
  · exact absurd z (by decide)
theorem st_2 (hd : 8 ≤ d) (B : hb h0 v0 x fr p q s0 s1 s3) (hM : hm M p q s0 s1 s3 pT qT f0 f1 eT) (lp : pT.length ≤ 120) (lq : qT.length ≤ 120) (l0 : f0.length ≤ 120) (l1 : f1.length ≤ 120) (l3 : eT.length ≤ 120) (hy : ((97 + y).toUInt32 % 65536).toInt32 = 97 + y) (X0 : sb h0 u v0 [] M True [] h0) : ia_Cn pg G kk_R_stepBy d 29 11070 [.ref 64, .ref x, .int (nI 2), .int y] h0 (fun rv h' => rv = some (.ref h0.2) ∧ SR h0 u v0 x 2 y fr (rf_k 2 pT qT f0 f1 eT) (rf_c 2 y pT qT f0 f1 eT) (rf_g 2 f0 f1 eT) h') := by
  have hB := B
  have hM' := hM
  obtain ⟨⟨fs64, e64⟩, ⟨f67, e67, g67⟩, ⟨e113, e114, e116⟩, ⟨pv, nn, stt, ex⟩, ⟨x1, x2, x3⟩, v01, h142⟩ := B
  obtain ⟨mc, mp, mq, m0, m1, m3⟩ := hM
  have m6 := mc (6, [62]) (by simp [cst])
  have m8 := mc (8, []) (by simp [cst])
  have m10 := mc (10, [38]) (by simp [cst])
  have m12 := mc (12, [33]) (by simp [cst])
  have m14 := mc (14, [38, 38]) (by simp [cst])
  have m16 := mc (16, [61]) (by simp [cst])
  have m18 := mc (18, [122]) (by simp [cst])
  have m20 := mc (20, [60]) (by simp [cst])
  have m22 := mc (22, [62, 38]) (by simp [cst])
  refine jd_met (ls := [.ref 64, .ref x, .int (nI 2), .int y, .retAddr 0, .retAddr 0]) rfl rfl rfl ?_
  have z0 := X0.size
  refine ia_new rfl rfl rfl (bc' := 28) (bs' := 11062) (by omega) (by show 11062 + 8 ≤ _; omega) ?_
  refine ia_go 2 rfl ?_
  refine sb.gen (X0.new (E := .inr (7, [.int 0, .null, .null, .null, .null, .int 0, .int 0, .null])) rfl ia_up_same (fun q hq => ia_up_ne hq)) (fun g1 X1 => ?_)
  refine jd_cI h0.2 [.int (nI 2)] [.ref h0.2] 0 0 (d' := d - 1) rfl rfl rfl (X1.cell List.mem_cons_self) rfl rfl (by omega) (by omega) (by omega) (cl_pinit (by omega) (X1.cell List.mem_cons_self) (by omega)) ?_
  rintro rv g2 ⟨rfl, on⟩
  have X2 := X1.set on (by decide) (by omega) (fun q hq => by cases hq)
  refine ia_go 1 rfl ?_
  dsimp only [ia_s1, ia_s2, ia_cl, ia_D, List.getElem?_cons_zero, List.getElem?_cons_succ, List.set_cons_zero, List.set_cons_succ]
  refine ia_go 1 rfl ?_
  refine ia_getf rfl ((X2.old (by omega) (by omega) (by omega) (by omega)).trans e64) rfl ?_
  refine ia_go 1 rfl ?_
  refine ia_aald rfl ((X2.old (by omega) (by omega) (by omega) (by omega)).trans e67) (by unfold vp_in; decide) (v := .ref 113) (g67 0 (by omega)) ?_
  refine ia_getf rfl ((X2.old (by omega) (by omega) (by omega) (by omega)).trans e113) rfl ?_
  refine ia_go 1 rfl ?_
  dsimp only [ia_s1, ia_s2, ia_cl, ia_D, List.getElem?_cons_zero, List.getElem?_cons_succ, List.set_cons_zero, List.set_cons_succ]
  refine ia_go 2 rfl ?_
  skip
  refine ia_go 4 rfl ?_
  refine jd_cV 64 [.ref h0.2, .ref x, .int y] [] 11 4804 (d' := d - 1) rfl rfl rfl ((X2.old (by omega) (by omega) (by omega) (by omega)).trans e64) rfl rfl (by omega) (by omega) (by omega) (st_assign (by omega) hB hM' lp lq l0 l1 l3 hy X2) ?_
  rintro rv h' ⟨rfl, c, XX⟩
  refine ia_go 1 rfl ?_
  refine ia_go 1 rfl ?_
  refine jd_rv1 rfl rfl rfl trivial ⟨rfl, ?_⟩
  refine ⟨_, _, .null, .null, .ref c, .null, y, .ref s3, XX.iff ?_ rfl, List.mem_cons_self, ⟨fun z => ?_, fun z => ?_⟩, ⟨fun z => ?_, fun z => ?_⟩, fun w hw => ?_, ⟨fun z => ?_, fun z => ?_⟩, ⟨fun z => ?_, fun z => ?_⟩, fun z => ?_, fun z => ?_⟩
  · simp [rf_k, rf_c]; try omega
  · exact absurd z (by decide)
  · rfl
  · exact absurd z (by decide)
  · rfl
  · cases hw
  · exact ⟨c, rfl, by rw [show (rf_c 2 y pT qT f0 f1 eT).getD 0 [] = [] ++ [62] ++ pT ++ tx_r (97 + y) eT qT by simp [rf_c]]; exact List.mem_cons_self⟩
  · exact absurd (by decide) z
  · exact absurd z (by decide)
  · rfl
  · rfl
  · exact ⟨s3, rfl, List.mem_cons_of_mem _ m3⟩
theorem st_4 (hd : 8 ≤ d) (B : hb h0 v0 x fr p q s0 s1 s3) (hM : hm M p q s0 s1 s3 pT qT f0 f1 eT) (lp : pT.length ≤ 120) (lq : qT.length ≤ 120) (l0 : f0.length ≤ 120) (l1 : f1.length ≤ 120) (l3 : eT.length ≤ 120) (X0 : sb h0 u v0 [] M True [] h0) : ia_Cn pg G kk_R_stepBy d 29 11070 [.ref 64, .ref x, .int (nI 4), .int y] h0 (fun rv h' => rv = some (.ref h0.2) ∧ SR h0 u v0 x 4 y fr (rf_k 4 pT qT f0 f1 eT) (rf_c 4 y pT qT f0 f1 eT) (rf_g 4 f0 f1 eT) h') := by
  have hB := B
  have hM' := hM
  obtain ⟨⟨fs64, e64⟩, ⟨f67, e67, g67⟩, ⟨e113, e114, e116⟩, ⟨pv, nn, stt, ex⟩, ⟨x1, x2, x3⟩, v01, h142⟩ := B
  obtain ⟨mc, mp, mq, m0, m1, m3⟩ := hM
  have m6 := mc (6, [62]) (by simp [cst])
  have m8 := mc (8, []) (by simp [cst])
  have m10 := mc (10, [38]) (by simp [cst])
  have m12 := mc (12, [33]) (by simp [cst])
  have m14 := mc (14, [38, 38]) (by simp [cst])
  have m16 := mc (16, [61]) (by simp [cst])
  have m18 := mc (18, [122]) (by simp [cst])
  have m20 := mc (20, [60]) (by simp [cst])
  have m22 := mc (22, [62, 38]) (by simp [cst])
  refine jd_met (ls := [.ref 64, .ref x, .int (nI 4), .int y, .retAddr 0, .retAddr 0]) rfl rfl rfl ?_
  have z0 := X0.size
  refine ia_new rfl rfl rfl (bc' := 28) (bs' := 11062) (by omega) (by show 11062 + 8 ≤ _; omega) ?_
  refine ia_go 2 rfl ?_
  refine sb.gen (X0.new (E := .inr (7, [.int 0, .null, .null, .null, .null, .int 0, .int 0, .null])) rfl ia_up_same (fun q hq => ia_up_ne hq)) (fun g1 X1 => ?_)
  refine jd_cI h0.2 [.int (nI 4)] [.ref h0.2] 0 0 (d' := d - 1) rfl rfl rfl (X1.cell List.mem_cons_self) rfl rfl (by omega) (by omega) (by omega) (cl_pinit (by omega) (X1.cell List.mem_cons_self) (by omega)) ?_
  rintro rv g2 ⟨rfl, on⟩
  have X2 := X1.set on (by decide) (by omega) (fun q hq => by cases hq)
  refine ia_go 1 rfl ?_
  dsimp only [ia_s1, ia_s2, ia_cl, ia_D, List.getElem?_cons_zero, List.getElem?_cons_succ, List.set_cons_zero, List.set_cons_succ]
  refine ia_go 1 rfl ?_
  refine ia_getf rfl ((X2.old (by omega) (by omega) (by omega) (by omega)).trans e64) rfl ?_
  refine ia_go 1 rfl ?_
  refine ia_aald rfl ((X2.old (by omega) (by omega) (by omega) (by omega)).trans e67) (by unfold vp_in; decide) (v := .ref 113) (g67 0 (by omega)) ?_
  refine ia_getf rfl ((X2.old (by omega) (by omega) (by omega) (by omega)).trans e113) rfl ?_
  refine ia_go 1 rfl ?_
  dsimp only [ia_s1, ia_s2, ia_cl, ia_D, List.getElem?_cons_zero, List.getElem?_cons_succ, List.set_cons_zero, List.set_cons_succ]
  refine ia_go 2 rfl ?_
  skip
  refine ia_go 4 rfl ?_
  refine jd_cV 64 [.ref h0.2, .ref x, .ref s0] [] 13 4340 (d' := d - 1) rfl rfl rfl ((X2.old (by omega) (by omega) (by omega) (by omega)).trans e64) rfl rfl (by omega) (by omega) (by omega) (st_alt (by omega) hB hM' lp lq l0 l1 l3 X2) ?_
  rintro rv h' ⟨rfl, a, b, y1, y2, q1, q2, XX⟩
  refine ia_go 1 rfl ?_
  refine ia_go 1 rfl ?_
  refine jd_rv1 rfl rfl rfl trivial ⟨rfl, ?_⟩
  refine ⟨_, _, .ref y1, .ref y2, .null, .null, 0, .ref s0, XX.iff ?_ rfl, List.mem_cons_self, ⟨fun z => ?_, fun z => ?_⟩, ⟨fun z => ?_, fun z => ?_⟩, fun w hw => ?_, ⟨fun z => ?_, fun z => ?_⟩, ⟨fun z => ?_, fun z => ?_⟩, fun z => ?_, fun z => ?_⟩
  · simp [rf_k, rf_c]; omega
  · exact ⟨y1, a, q, rfl, List.mem_cons_of_mem _ (List.mem_cons_of_mem _ List.mem_cons_self), by rw [show (rf_k 4 pT qT f0 f1 eT).getD 0 [] = [] ++ [38] ++ pT ++ f0 by simp [rf_k]]; exact List.mem_cons_of_mem _ List.mem_cons_self, by show (q, tk qT) ∈ _; rw [tk_le lq]; exact List.mem_cons_of_mem _ (List.mem_cons_of_mem _ mq), q1⟩
  · exact absurd (by decide) z
  · exact ⟨y2, b, q, rfl, List.mem_cons_of_mem _ List.mem_cons_self, by rw [show (rf_k 4 pT qT f0 f1 eT).getD 2 [] = [] ++ [38] ++ pT ++ [33] ++ f0 by simp [rf_k]]; exact List.mem_cons_self, by show (q, tk qT) ∈ _; rw [tk_le lq]; exact List.mem_cons_of_mem _ (List.mem_cons_of_mem _ mq), by omega⟩
  · exact absurd (by decide) z
  · intro w2; cases hw; have e9 : ∀ a b : Nat, Value.ref a = Value.ref b → a = b := fun a b e => Value.ref.inj e; have := e9 _ _ w2; omega
  · exact absurd z (by decide)
  · rfl
  · exact absurd z (by decide)
  · rfl
  · exact absurd z (by decide)
  · exact ⟨s0, rfl, List.mem_cons_of_mem _ (List.mem_cons_of_mem _ m0)⟩
theorem st_5 (hd : 8 ≤ d) (B : hb h0 v0 x fr p q s0 s1 s3) (hM : hm M p q s0 s1 s3 pT qT f0 f1 eT) (lp : pT.length ≤ 120) (lq : qT.length ≤ 120) (l0 : f0.length ≤ 120) (l1 : f1.length ≤ 120) (l3 : eT.length ≤ 120) (X0 : sb h0 u v0 [] M True [] h0) : ia_Cn pg G kk_R_stepBy d 29 11070 [.ref 64, .ref x, .int (nI 5), .int y] h0 (fun rv h' => rv = some (.ref h0.2) ∧ SR h0 u v0 x 5 y fr (rf_k 5 pT qT f0 f1 eT) (rf_c 5 y pT qT f0 f1 eT) (rf_g 5 f0 f1 eT) h') := by
  have hB := B
  have hM' := hM
  obtain ⟨⟨fs64, e64⟩, ⟨f67, e67, g67⟩, ⟨e113, e114, e116⟩, ⟨pv, nn, stt, ex⟩, ⟨x1, x2, x3⟩, v01, h142⟩ := B
  obtain ⟨mc, mp, mq, m0, m1, m3⟩ := hM
  have m6 := mc (6, [62]) (by simp [cst])
  have m8 := mc (8, []) (by simp [cst])
  have m10 := mc (10, [38]) (by simp [cst])
  have m12 := mc (12, [33]) (by simp [cst])
  have m14 := mc (14, [38, 38]) (by simp [cst])
  have m16 := mc (16, [61]) (by simp [cst])
  have m18 := mc (18, [122]) (by simp [cst])
  have m20 := mc (20, [60]) (by simp [cst])
  have m22 := mc (22, [62, 38]) (by simp [cst])
  refine jd_met (ls := [.ref 64, .ref x, .int (nI 5), .int y, .retAddr 0, .retAddr 0]) rfl rfl rfl ?_
  have z0 := X0.size
  refine ia_new rfl rfl rfl (bc' := 28) (bs' := 11062) (by omega) (by show 11062 + 8 ≤ _; omega) ?_
  refine ia_go 2 rfl ?_
  refine sb.gen (X0.new (E := .inr (7, [.int 0, .null, .null, .null, .null, .int 0, .int 0, .null])) rfl ia_up_same (fun q hq => ia_up_ne hq)) (fun g1 X1 => ?_)
  refine jd_cI h0.2 [.int (nI 5)] [.ref h0.2] 0 0 (d' := d - 1) rfl rfl rfl (X1.cell List.mem_cons_self) rfl rfl (by omega) (by omega) (by omega) (cl_pinit (by omega) (X1.cell List.mem_cons_self) (by omega)) ?_
  rintro rv g2 ⟨rfl, on⟩
  have X2 := X1.set on (by decide) (by omega) (fun q hq => by cases hq)
  refine ia_go 1 rfl ?_
  dsimp only [ia_s1, ia_s2, ia_cl, ia_D, List.getElem?_cons_zero, List.getElem?_cons_succ, List.set_cons_zero, List.set_cons_succ]
  refine ia_go 1 rfl ?_
  refine ia_getf rfl ((X2.old (by omega) (by omega) (by omega) (by omega)).trans e64) rfl ?_
  refine ia_go 1 rfl ?_
  refine ia_aald rfl ((X2.old (by omega) (by omega) (by omega) (by omega)).trans e67) (by unfold vp_in; decide) (v := .ref 113) (g67 0 (by omega)) ?_
  refine ia_getf rfl ((X2.old (by omega) (by omega) (by omega) (by omega)).trans e113) rfl ?_
  refine ia_go 1 rfl ?_
  dsimp only [ia_s1, ia_s2, ia_cl, ia_D, List.getElem?_cons_zero, List.getElem?_cons_succ, List.set_cons_zero, List.set_cons_succ]
  refine ia_go 2 rfl ?_
  skip
  refine ia_go 4 rfl ?_
  refine jd_cV 64 [.ref h0.2, .ref x, .ref s0] [] 28 11062 (d' := d - 1) rfl rfl rfl ((X2.old (by omega) (by omega) (by omega) (by omega)).trans e64) rfl rfl (by omega) (by omega) (by omega) (st_loop (by omega) hB hM' lp lq l0 l1 l3 X2) ?_
  rintro rv h' ⟨rfl, a, b, c, e, y1, q1, XX⟩
  refine ia_go 1 rfl ?_
  refine ia_go 1 rfl ?_
  refine jd_rv1 rfl rfl rfl trivial ⟨rfl, ?_⟩
  refine ⟨_, _, .ref y1, .null, .ref c, .ref e, 0, .ref s1, XX.iff ?_ rfl, List.mem_cons_self, ⟨fun z => ?_, fun z => ?_⟩, ⟨fun z => ?_, fun z => ?_⟩, fun w hw => ?_, ⟨fun z => ?_, fun z => ?_⟩, ⟨fun z => ?_, fun z => ?_⟩, fun z => ?_, fun z => ?_⟩
  · simp [rf_k, rf_c]; omega
  · exact ⟨y1, a, b, rfl, List.mem_cons_of_mem _ List.mem_cons_self, by rw [show (rf_k 5 pT qT f0 f1 eT).getD 0 [] = [] ++ [38, 38] ++ f0 ++ f1 ++ [61] ++ eT ++ [122] by simp [rf_k]]; exact List.mem_cons_of_mem _ (List.mem_cons_of_mem _ (List.mem_cons_of_mem _ List.mem_cons_self)), by rw [show (rf_k 5 pT qT f0 f1 eT).getD 1 [] = [] ++ [38] ++ f0 ++ [60] ++ eT ++ [122] by simp [rf_k]]; exact List.mem_cons_of_mem _ (List.mem_cons_of_mem _ List.mem_cons_self), q1⟩
  · exact absurd (by decide) z
  · exact absurd z (by decide)
  · rfl
  · intro w2; cases w2
  · exact ⟨c, rfl, by rw [show (rf_c 5 y pT qT f0 f1 eT).getD 0 [] = [] ++ [62] ++ pT ++ f0 by simp [rf_c]]; exact List.mem_cons_of_mem _ List.mem_cons_self⟩
  · exact absurd (by decide) z
  · exact ⟨e, rfl, by rw [show (rf_c 5 y pT qT f0 f1 eT).getD 1 [] = [] ++ [62, 38] ++ f0 ++ [33] ++ f1 ++ qT by simp [rf_c]]; exact List.mem_cons_self⟩
  · exact absurd (by decide) z
  · exact absurd z (by decide)
  · exact ⟨s1, rfl, List.mem_cons_of_mem _ (List.mem_cons_of_mem _ (List.mem_cons_of_mem _ (List.mem_cons_of_mem _ m1)))⟩
end ST
