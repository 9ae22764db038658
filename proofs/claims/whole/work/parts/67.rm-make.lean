/-! THE REFERENCE, 8: what a refinement makes. -/
theorem ia_Cn.mono {P : ia_P} {G : ia_G} {z d mc ms : Nat} {as : List Value} {h : ia_H} {Post Post' : Option Value → ia_H → Prop} (k1 : ia_Cn P G z d mc ms as h Post') (hp : ∀ rv h', Post' rv h' → Post rv h') : ia_Cn P G z d mc ms as h Post := by
  intro ok Z hZ
  refine MetFree.mono (k1 ok Z hZ) (fun _ _ h => h) (fun _ _ _ _ _ h => h) ?_
  rintro a st o t - ⟨⟨⟨rv, h', e1, e2, e3⟩, e4⟩, e5⟩
  exact ⟨⟨⟨rv, h', e1, hp rv h' e2, e3⟩, e4⟩, e5⟩
/-- the made texts alone have changed -/
def tm_F (F F' : Nat → Nat → Int32) : Prop := ∀ k j, (k ≠ 0 ∨ j < 9300 ∨ 10500 ≤ j) → k ≠ 13 → F' k j = F k j
theorem tm_F.rf {F : Nat → Nat → Int32} : tm_F F F := fun _ _ _ _ => rfl
theorem tm_F.tr {F1 F2 F3 : Nat → Nat → Int32} {o : Nat} (ho : o < 6) (a : tm_F F1 F2) (b : tm_fr F2 F3 o) : tm_F F1 F3 := fun k j h1 h2 => (b k j (by omega) (Or.inl h2)).trans (a k j h1 h2)
theorem tm_s.F {F F' : Nat → Nat → Int32} {i : Nat} {t : List Int32} (hf : tm_F F F') (hi : i < 4) (h : tm_s F i t) : tm_s F' i t := ⟨h.1.keep (fun j hj => hf 0 _ (by have := h.2.2; omega) (by decide)), (hf 1 i (Or.inl (by decide)) (by decide)).trans h.2.1, h.2.2⟩
theorem tm_n.F {F F' : Nat → Nat → Int32} {n w : Nat} {t : List Int32} (hf : tm_F F F') (hn : n ≤ 16) (hw : w ≤ 3) (h : tm_n F n w t) : tm_n F' n w t := ⟨h.1.keep (fun j hj => hf 0 _ (by have := h.2.2; omega) (by decide)), (hf 1 _ (Or.inl (by decide)) (by decide)).trans h.2.1, h.2.2⟩
theorem tm_m.fr {F F' : Nat → Nat → Int32} {o i : Nat} {U : List Int32} (hf : tm_fr F F' o) (hi : i ≠ o) (h : tm_m F i U) : tm_m F' i U := ⟨(hf 13 i (Or.inl (by decide)) (Or.inr hi)).trans h.1, fun j c hj hc => (hf 0 _ (by omega) (Or.inl (by decide))).trans (h.2 j c hj hc)⟩
/-- L: the texts that were made -/
def mu (L : Nat → Option (List Int32)) (o : Nat) (U : List Int32) : Nat → Option (List Int32) := fun i => if i = o then some U else L i
def mk (h0 h : ia_H) (F : Nat → Nat → Int32) (S : Nat → Int32) (L : Nat → Option (List Int32)) (nc nk o : Nat) : Prop := ∃ F1 S1, rm_X h0 h F1 S1 ∧ tm_F F F1 ∧ (∀ k, k ≠ 2 → k ≠ 3 → k ≠ 6 → S1 k = S k) ∧ S1 2 = nI nc ∧ S1 3 = nI nk ∧ S1 6 = nI o ∧ o < 6 ∧ ∀ i U, L i = some U → i < 6 → tm_m F1 i U
theorem mk.o {h0 h : ia_H} {F : Nat → Nat → Int32} {S : Nat → Int32} {L : Nat → Option (List Int32)} {nc nk o : Nat} (hM : mk h0 h F S L nc nk o) : ∃ S9, h.1 117 = some (.inr (8, rm_f S9)) := by
  obtain ⟨F1, S1, h1, -⟩ := hM
  exact ⟨S1, h1.1.1⟩
section MK
variable {G : ia_G} {h0 h : ia_H} {d nc nk o : Nat} {F : Nat → Nat → Int32} {S : Nat → Int32} {L : Nat → Option (List Int32)} {U t : List Int32}
/-- what the writing calls leave -/
theorem mk_step {h' : ia_H} {F1 F2 : Nat → Nat → Int32} {S1 : Nat → Int32} (g1 : rm_X h0 h F1 S1) (g2 : tm_F F F1) (g3 : ∀ k, k ≠ 2 → k ≠ 3 → k ≠ 6 → S1 k = S k) (g4 : S1 2 = nI nc) (g5 : S1 3 = nI nk) (g6 : S1 6 = nI o) (g7 : o < 6) (g8 : ∀ i U, L i = some U → i < 6 → tm_m F1 i U) (a1 : rm_X h h' F2 S1) (a2 : tm_m F2 o U) (a3 : tm_fr F1 F2 o) : mk h0 h' F S (mu L o U) nc nk o := by
  refine ⟨F2, S1, g1.tr a1, g2.tr g7 a3, g3, g4, g5, g6, g7, fun i V hV hi => ?_⟩
  unfold mu at hV
  split at hV
  next e => cases hV; rw [e]; exact a2
  next e => exact (g8 i V hV hi).fr a3 e
theorem mk_open {p : Nat} (hM : mk h0 h F S L nc nk o) (hp : p < 6) : ia_Cn pg G kk_M_openText d 0 0 [.ref 117, .int (nI p)] h (fun rv h' => rv = none ∧ mk h0 h' F S (mu L p []) nc nk p) := by
  obtain ⟨F1, S1, g1, g2, g3, g4, g5, g6, g7, g8⟩ := hM
  refine ia_Cn.mono (rm_openText g1.1 hp) ?_
  rintro rv h' ⟨rfl, hm⟩
  refine ⟨rfl, _, _, g1.tr hm, fun k j k1 k2 => (rm_uk k2).trans (g2 k j k1 k2), fun k k1 k2 k3 => ?_, ?_, ?_, ?_, hp, fun i V hV hi => ?_⟩
  · unfold rm_s; rw [if_neg k3]; exact g3 k k1 k2 k3
  · unfold rm_s; rw [if_neg (by decide)]; exact g4
  · unfold rm_s; rw [if_neg (by decide)]; exact g5
  · unfold rm_s; rw [if_pos rfl]
  · unfold mu at hV
    split at hV
    next e => cases hV; rw [e]; exact ⟨rm_uu, fun j c _ hc => by cases hc⟩
    next e => exact ⟨(rm_un e).trans (g8 i V hV hi).1, fun j c hj hc => (rm_uk (by decide)).trans ((g8 i V hV hi).2 j c hj hc)⟩
theorem mk_put {c : Int32} (hM : mk h0 h F S L nc nk o) (hU : L o = some U) : ia_Cn pg G kk_M_put d 0 0 [.ref 117, .int c] h (fun rv h' => rv = none ∧ mk h0 h' F S (mu L o (U ++ [c])) nc nk o) := by
  obtain ⟨F1, S1, g1, g2, g3, g4, g5, g6, g7, g8⟩ := hM
  refine ia_Cn.mono (rm_put1 g1.1 g6 g7 (g8 o U hU g7)) ?_
  rintro rv h' ⟨rfl, F2, a1, a2, a3⟩
  exact ⟨rfl, mk_step g1 g2 g3 g4 g5 g6 g7 g8 a1 a2 a3⟩
theorem mk_slot {i : Nat} (hd : 2 ≤ d) (hM : mk h0 h F S L nc nk o) (hU : L o = some U) (hi : i < 4) (ht : tm_s F i t) : ia_Cn pg G kk_M_putSlot d 0 0 [.ref 117, .int (nI i)] h (fun rv h' => rv = none ∧ mk h0 h' F S (mu L o (U ++ t)) nc nk o) := by
  obtain ⟨F1, S1, g1, g2, g3, g4, g5, g6, g7, g8⟩ := hM
  refine ia_Cn.mono (rm_putSlot hd g1.1 g6 g7 (g8 o U hU g7) hi (ht.F g2 hi)) ?_
  rintro rv h' ⟨rfl, F2, a1, a2, a3⟩
  exact ⟨rfl, mk_step g1 g2 g3 g4 g5 g6 g7 g8 a1 a2 a3⟩
theorem mk_node {n w : Nat} (hd : 2 ≤ d) (hM : mk h0 h F S L nc nk o) (hU : L o = some U) (hn1 : 1 ≤ n) (hn : n ≤ 16) (hw : w ≤ 3) (ht : tm_n F n w t) : ia_Cn pg G kk_M_putNode d 0 0 [.ref 117, .int (nI n), .int (nI w)] h (fun rv h' => rv = none ∧ mk h0 h' F S (mu L o (U ++ t)) nc nk o) := by
  obtain ⟨F1, S1, g1, g2, g3, g4, g5, g6, g7, g8⟩ := hM
  refine ia_Cn.mono (rm_putNode hd g1.1 g6 g7 (g8 o U hU g7) hn1 hn hw (ht.F g2 hn hw)) ?_
  rintro rv h' ⟨rfl, F2, a1, a2, a3⟩
  exact ⟨rfl, mk_step g1 g2 g3 g4 g5 g6 g7 g8 a1 a2 a3⟩
theorem mk_repl {n : Nat} {v : Int32} {e : List Int32} (hd : 3 ≤ d) (hM : mk h0 h F S L nc nk o) (hU : L o = some U) (hn1 : 1 ≤ n) (hn : n ≤ 16) (ht : tm_n F n 1 t) (he : tm_s F 3 e) : ia_Cn pg G kk_M_putReplaced d 0 0 [.ref 117, .int (nI n), .int v] h (fun rv h' => rv = none ∧ mk h0 h' F S (mu L o (U ++ tx_r v e t)) nc nk o) := by
  obtain ⟨F1, S1, g1, g2, g3, g4, g5, g6, g7, g8⟩ := hM
  refine ia_Cn.mono (rm_putReplaced hd g1.1 g6 g7 (g8 o U hU g7) hn1 hn (ht.F g2 hn (by omega)) (he.F g2 (by omega))) ?_
  rintro rv h' ⟨rfl, F2, a1, a2, a3⟩
  exact ⟨rfl, mk_step g1 g2 g3 g4 g5 g6 g7 g8 a1 a2 a3⟩
/-- the number of children, the number of conditions -/
theorem mk_kids {k' pc nx cst bc bs : Nat} {cs : Value} {ls st : List Value} {Post : Option Value → ia_H → Prop} {q : Nat} (hr : ia_row pg k' pc = some (.putfield cst, nx, 8, 17, cs)) (hM : mk h0 h F S L nc nk o) (kk : ∀ h', mk h0 h' F S L nc q o → ia_Sx pg G k' d bc bs nx ls st h' Post) : ia_Sx pg G k' d bc bs pc ls (.int (nI q) :: .ref 117 :: st) h Post := by
  obtain ⟨F1, S1, g1, g2, g3, g4, g5, g6, g7, g8⟩ := hM
  refine rm_put (sk := 3) hr g1 rfl rfl (fun h1 hm => kk h1 ⟨F1, _, hm, g2, fun k k1 k2 k3 => ?_, ?_, ?_, ?_, g7, g8⟩)
  · unfold rm_s; rw [if_neg k2]; exact g3 k k1 k2 k3
  · unfold rm_s; rw [if_neg (by decide)]; exact g4
  · unfold rm_s; rw [if_pos rfl]
  · unfold rm_s; rw [if_neg (by decide)]; exact g6
theorem mk_conds {k' pc nx cst bc bs : Nat} {cs : Value} {ls st : List Value} {Post : Option Value → ia_H → Prop} {q : Nat} (hr : ia_row pg k' pc = some (.putfield cst, nx, 8, 16, cs)) (hM : mk h0 h F S L nc nk o) (kk : ∀ h', mk h0 h' F S L q nk o → ia_Sx pg G k' d bc bs nx ls st h' Post) : ia_Sx pg G k' d bc bs pc ls (.int (nI q) :: .ref 117 :: st) h Post := by
  obtain ⟨F1, S1, g1, g2, g3, g4, g5, g6, g7, g8⟩ := hM
  refine rm_put (sk := 2) hr g1 rfl rfl (fun h1 hm => kk h1 ⟨F1, _, hm, g2, fun k k1 k2 k3 => ?_, ?_, ?_, ?_, g7, g8⟩)
  · unfold rm_s; rw [if_neg k1]; exact g3 k k1 k2 k3
  · unfold rm_s; rw [if_pos rfl]
  · unfold rm_s; rw [if_neg (by decide)]; exact g5
  · unfold rm_s; rw [if_neg (by decide)]; exact g6
theorem mk_cond (hd : 1 ≤ d) (hM : mk h0 h F S L nc nk o) (hc : nc ≤ 1) : ia_Cn pg G kk_M_openCondition d 0 0 [.ref 117] h (fun rv h' => rv = none ∧ mk h0 h' F S (mu (mu L (4 + nc) []) (4 + nc) ([] ++ [62])) (nc + 1) nk (4 + nc)) := by
  have hM0 := hM
  obtain ⟨F1, S1, g1, g2, g3, g4, g5, g6, g7, g8⟩ := hM
  refine jd_met (ls := [.ref 117]) rfl rfl rfl ?_
  refine ia_go 3 rfl ?_
  refine ia_getf rfl g1.1.1 rfl ?_
  refine ia_go 1 rfl ?_
  rw [g4, show (4 : Int32) + nI nc = nI (4 + nc) from nI_add 4 nc]
  refine jd_cV 117 [.int (nI (4 + nc))] [] 0 0 (d' := d - 1) rfl rfl rfl g1.1.1 rfl rfl (by omega) (by omega) (by omega) (mk_open hM0 (by omega)) ?_
  rintro rv h1 ⟨rfl, hM1⟩
  obtain ⟨F2, S2, b1, b2, b3, b4, b5, b6, b7, b8⟩ := id hM1
  refine ia_go 2 rfl ?_
  refine ia_getf rfl b1.1.1 rfl ?_
  refine ia_go 2 rfl ?_
  rw [b4, nI_1]
  refine mk_conds rfl hM1 (fun h2 hM2 => ?_)
  obtain ⟨S9, q9⟩ := hM2.o
  refine ia_go 2 rfl ?_
  refine jd_cV 117 [.int 62] [] 0 0 (d' := d - 1) rfl rfl rfl q9 rfl rfl (by omega) (by omega) (by omega) (mk_put (U := []) hM2 (by unfold mu; rw [if_pos rfl])) ?_
  rintro rv h3 ⟨rfl, hM3⟩
  exact jd_rv0 rfl rfl rfl ⟨rfl, hM3⟩
/-- the texts of the children (pre, post, pre, post), the conditions -/
def rf_k (w : Nat) (p q f0 f1 e : List Int32) : List (List Int32) := if w = 3 then [p, f0, f0, q] else if w = 4 then [38 :: (p ++ f0), q, 38 :: (p ++ 33 :: f0), q] else if w = 5 then [38 :: 38 :: (f0 ++ (f1 ++ 61 :: (e ++ [122]))), 38 :: (f0 ++ 60 :: (e ++ [122]))] else if w = 6 then [p, f0] else if w = 7 then [f0, q] else if w = 8 then [p, q] else []
def rf_c (w : Nat) (v : Int32) (p q f0 f1 e : List Int32) : List (List Int32) := if w = 1 then [62 :: (p ++ q)] else if w = 2 then [62 :: (p ++ tx_r (97 + v) e q)] else if w = 5 then [62 :: (p ++ f0), 62 :: 38 :: (f0 ++ 33 :: (f1 ++ q))] else if w = 6 then [62 :: (f0 ++ q)] else if w = 7 then [62 :: (p ++ f0)] else []
def mk_R (h0 h' : ia_H) (F : Nat → Nat → Int32) (S : Nat → Int32) (K C : List (List Int32)) : Prop := ∃ L nk o, mk h0 h' F S L C.length nk o ∧ 2 * nk = K.length ∧ (∀ i U, K[i]? = some U → L i = some U) ∧ ∀ i U, C[i]? = some U → L (4 + i) = some U
theorem mk_seq {n : Nat} {p q f0 f1 e : List Int32} (hd : 3 ≤ d) (hM : mk h0 h F S L 0 nk o) (hn1 : 1 ≤ n) (hn : n ≤ 16) (ht0 : tm_n F n 0 p) (ht1 : tm_n F n 1 q) (hq0 : tm_s F 0 f0) (hq1 : tm_s F 1 f1) (hq3 : tm_s F 3 e) : ia_Cn pg G kk_M_makeSequence d 0 0 [.ref 117, .int (nI n)] h (fun rv h' => rv = none ∧ mk_R h0 h' F S (rf_k 3 p q f0 f1 e) (rf_c 3 0 p q f0 f1 e)) := by
  refine jd_met (ls := [.ref 117, .int (nI n)]) rfl rfl rfl ?_
  obtain ⟨S9, q9⟩ := hM.o
  refine ia_go 2 rfl ?_
  refine jd_cV 117 [.int (nI 0)] [] 0 0 (d' := d - 1) rfl rfl rfl q9 rfl rfl (by omega) (by omega) (by omega) (mk_open hM (by omega)) ?_
  rintro rv h1 ⟨rfl, hM⟩
  obtain ⟨S9, q9⟩ := hM.o
  refine ia_go 3 rfl ?_
  refine jd_cV 117 [.int (nI n), .int (nI 0)] [] 0 0 (d' := d - 1) rfl rfl rfl q9 rfl rfl (by omega) (by omega) (by omega) (mk_node (by omega) hM rfl hn1 hn (by omega) ht0) ?_
  rintro rv h1 ⟨rfl, hM⟩
  obtain ⟨S9, q9⟩ := hM.o
  refine ia_go 2 rfl ?_
  refine jd_cV 117 [.int (nI 1)] [] 0 0 (d' := d - 1) rfl rfl rfl q9 rfl rfl (by omega) (by omega) (by omega) (mk_open hM (by omega)) ?_
  rintro rv h1 ⟨rfl, hM⟩
  obtain ⟨S9, q9⟩ := hM.o
  refine ia_go 2 rfl ?_
  refine jd_cV 117 [.int (nI 0)] [] 0 0 (d' := d - 1) rfl rfl rfl q9 rfl rfl (by omega) (by omega) (by omega) (mk_slot (by omega) hM rfl (by omega) hq0) ?_
  rintro rv h1 ⟨rfl, hM⟩
  obtain ⟨S9, q9⟩ := hM.o
  refine ia_go 2 rfl ?_
  refine jd_cV 117 [.int (nI 2)] [] 0 0 (d' := d - 1) rfl rfl rfl q9 rfl rfl (by omega) (by omega) (by omega) (mk_open hM (by omega)) ?_
  rintro rv h1 ⟨rfl, hM⟩
  obtain ⟨S9, q9⟩ := hM.o
  refine ia_go 2 rfl ?_
  refine jd_cV 117 [.int (nI 0)] [] 0 0 (d' := d - 1) rfl rfl rfl q9 rfl rfl (by omega) (by omega) (by omega) (mk_slot (by omega) hM rfl (by omega) hq0) ?_
  rintro rv h1 ⟨rfl, hM⟩
  obtain ⟨S9, q9⟩ := hM.o
  refine ia_go 2 rfl ?_
  refine jd_cV 117 [.int (nI 3)] [] 0 0 (d' := d - 1) rfl rfl rfl q9 rfl rfl (by omega) (by omega) (by omega) (mk_open hM (by omega)) ?_
  rintro rv h1 ⟨rfl, hM⟩
  obtain ⟨S9, q9⟩ := hM.o
  refine ia_go 3 rfl ?_
  refine jd_cV 117 [.int (nI n), .int (nI 1)] [] 0 0 (d' := d - 1) rfl rfl rfl q9 rfl rfl (by omega) (by omega) (by omega) (mk_node (by omega) hM rfl hn1 hn (by omega) ht1) ?_
  rintro rv h1 ⟨rfl, hM⟩
  refine ia_go 2 rfl ?_
  refine mk_kids (q := 2) rfl hM (fun h1 hM => ?_)
  refine jd_rv0 rfl rfl rfl ⟨rfl, ?_⟩
  refine ⟨_, _, _, hM, rfl, ?_, ?_⟩
  all_goals
    intro i U h
    rcases i with _ | _ | _ | _ | i
    all_goals (first | (simp [rf_k, rf_c] at h; done) | (simp [rf_k, rf_c] at h; subst h; simp [mu, List.append_assoc]; done))
theorem mk_loop {n : Nat} {p q f0 f1 e : List Int32} (hd : 3 ≤ d) (hM : mk h0 h F S L 0 nk o) (hn1 : 1 ≤ n) (hn : n ≤ 16) (ht0 : tm_n F n 0 p) (ht1 : tm_n F n 1 q) (hq0 : tm_s F 0 f0) (hq1 : tm_s F 1 f1) (hq3 : tm_s F 3 e) : ia_Cn pg G kk_M_makeLoop d 0 0 [.ref 117, .int (nI n)] h (fun rv h' => rv = none ∧ mk_R h0 h' F S (rf_k 5 p q f0 f1 e) (rf_c 5 0 p q f0 f1 e)) := by
  refine jd_met (ls := [.ref 117, .int (nI n)]) rfl rfl rfl ?_
  obtain ⟨S9, q9⟩ := hM.o
  refine ia_go 2 rfl ?_
  refine jd_cV 117 [.int (nI 0)] [] 0 0 (d' := d - 1) rfl rfl rfl q9 rfl rfl (by omega) (by omega) (by omega) (mk_open hM (by omega)) ?_
  rintro rv h1 ⟨rfl, hM⟩
  obtain ⟨S9, q9⟩ := hM.o
  refine ia_go 2 rfl ?_
  refine jd_cV 117 [.int 38] [] 0 0 (d' := d - 1) rfl rfl rfl q9 rfl rfl (by omega) (by omega) (by omega) (mk_put hM rfl) ?_
  rintro rv h1 ⟨rfl, hM⟩
  obtain ⟨S9, q9⟩ := hM.o
  refine ia_go 2 rfl ?_
  refine jd_cV 117 [.int 38] [] 0 0 (d' := d - 1) rfl rfl rfl q9 rfl rfl (by omega) (by omega) (by omega) (mk_put hM rfl) ?_
  rintro rv h1 ⟨rfl, hM⟩
  obtain ⟨S9, q9⟩ := hM.o
  refine ia_go 2 rfl ?_
  refine jd_cV 117 [.int (nI 0)] [] 0 0 (d' := d - 1) rfl rfl rfl q9 rfl rfl (by omega) (by omega) (by omega) (mk_slot (by omega) hM rfl (by omega) hq0) ?_
  rintro rv h1 ⟨rfl, hM⟩
  obtain ⟨S9, q9⟩ := hM.o
  refine ia_go 2 rfl ?_
  refine jd_cV 117 [.int (nI 1)] [] 0 0 (d' := d - 1) rfl rfl rfl q9 rfl rfl (by omega) (by omega) (by omega) (mk_slot (by omega) hM rfl (by omega) hq1) ?_
  rintro rv h1 ⟨rfl, hM⟩
  obtain ⟨S9, q9⟩ := hM.o
  refine ia_go 2 rfl ?_
  refine jd_cV 117 [.int 61] [] 0 0 (d' := d - 1) rfl rfl rfl q9 rfl rfl (by omega) (by omega) (by omega) (mk_put hM rfl) ?_
  rintro rv h1 ⟨rfl, hM⟩
  obtain ⟨S9, q9⟩ := hM.o
  refine ia_go 2 rfl ?_
  refine jd_cV 117 [.int (nI 3)] [] 0 0 (d' := d - 1) rfl rfl rfl q9 rfl rfl (by omega) (by omega) (by omega) (mk_slot (by omega) hM rfl (by omega) hq3) ?_
  rintro rv h1 ⟨rfl, hM⟩
  obtain ⟨S9, q9⟩ := hM.o
  refine ia_go 2 rfl ?_
  refine jd_cV 117 [.int 122] [] 0 0 (d' := d - 1) rfl rfl rfl q9 rfl rfl (by omega) (by omega) (by omega) (mk_put hM rfl) ?_
  rintro rv h1 ⟨rfl, hM⟩
  obtain ⟨S9, q9⟩ := hM.o
  refine ia_go 2 rfl ?_
  refine jd_cV 117 [.int (nI 1)] [] 0 0 (d' := d - 1) rfl rfl rfl q9 rfl rfl (by omega) (by omega) (by omega) (mk_open hM (by omega)) ?_
  rintro rv h1 ⟨rfl, hM⟩
  obtain ⟨S9, q9⟩ := hM.o
  refine ia_go 2 rfl ?_
  refine jd_cV 117 [.int 38] [] 0 0 (d' := d - 1) rfl rfl rfl q9 rfl rfl (by omega) (by omega) (by omega) (mk_put hM rfl) ?_
  rintro rv h1 ⟨rfl, hM⟩
  obtain ⟨S9, q9⟩ := hM.o
  refine ia_go 2 rfl ?_
  refine jd_cV 117 [.int (nI 0)] [] 0 0 (d' := d - 1) rfl rfl rfl q9 rfl rfl (by omega) (by omega) (by omega) (mk_slot (by omega) hM rfl (by omega) hq0) ?_
  rintro rv h1 ⟨rfl, hM⟩
  obtain ⟨S9, q9⟩ := hM.o
  refine ia_go 2 rfl ?_
  refine jd_cV 117 [.int 60] [] 0 0 (d' := d - 1) rfl rfl rfl q9 rfl rfl (by omega) (by omega) (by omega) (mk_put hM rfl) ?_
  rintro rv h1 ⟨rfl, hM⟩
  obtain ⟨S9, q9⟩ := hM.o
  refine ia_go 2 rfl ?_
  refine jd_cV 117 [.int (nI 3)] [] 0 0 (d' := d - 1) rfl rfl rfl q9 rfl rfl (by omega) (by omega) (by omega) (mk_slot (by omega) hM rfl (by omega) hq3) ?_
  rintro rv h1 ⟨rfl, hM⟩
  obtain ⟨S9, q9⟩ := hM.o
  refine ia_go 2 rfl ?_
  refine jd_cV 117 [.int 122] [] 0 0 (d' := d - 1) rfl rfl rfl q9 rfl rfl (by omega) (by omega) (by omega) (mk_put hM rfl) ?_
  rintro rv h1 ⟨rfl, hM⟩
  refine ia_go 2 rfl ?_
  refine mk_kids (q := 1) rfl hM (fun h1 hM => ?_)
  obtain ⟨S9, q9⟩ := hM.o
  refine ia_go 1 rfl ?_
  refine jd_cV 117 [] [] 0 0 (d' := d - 1) rfl rfl rfl q9 rfl rfl (by omega) (by omega) (by omega) (mk_cond (by omega) hM (by omega)) ?_
  rintro rv h1 ⟨rfl, hM⟩
  obtain ⟨S9, q9⟩ := hM.o
  refine ia_go 3 rfl ?_
  refine jd_cV 117 [.int (nI n), .int (nI 0)] [] 0 0 (d' := d - 1) rfl rfl rfl q9 rfl rfl (by omega) (by omega) (by omega) (mk_node (by omega) hM rfl hn1 hn (by omega) ht0) ?_
  rintro rv h1 ⟨rfl, hM⟩
  obtain ⟨S9, q9⟩ := hM.o
  refine ia_go 2 rfl ?_
  refine jd_cV 117 [.int (nI 0)] [] 0 0 (d' := d - 1) rfl rfl rfl q9 rfl rfl (by omega) (by omega) (by omega) (mk_slot (by omega) hM rfl (by omega) hq0) ?_
  rintro rv h1 ⟨rfl, hM⟩
  obtain ⟨S9, q9⟩ := hM.o
  refine ia_go 1 rfl ?_
  refine jd_cV 117 [] [] 0 0 (d' := d - 1) rfl rfl rfl q9 rfl rfl (by omega) (by omega) (by omega) (mk_cond (by omega) hM (by omega)) ?_
  rintro rv h1 ⟨rfl, hM⟩
  obtain ⟨S9, q9⟩ := hM.o
  refine ia_go 2 rfl ?_
  refine jd_cV 117 [.int 38] [] 0 0 (d' := d - 1) rfl rfl rfl q9 rfl rfl (by omega) (by omega) (by omega) (mk_put hM rfl) ?_
  rintro rv h1 ⟨rfl, hM⟩
  obtain ⟨S9, q9⟩ := hM.o
  refine ia_go 2 rfl ?_
  refine jd_cV 117 [.int (nI 0)] [] 0 0 (d' := d - 1) rfl rfl rfl q9 rfl rfl (by omega) (by omega) (by omega) (mk_slot (by omega) hM rfl (by omega) hq0) ?_
  rintro rv h1 ⟨rfl, hM⟩
  obtain ⟨S9, q9⟩ := hM.o
  refine ia_go 2 rfl ?_
  refine jd_cV 117 [.int 33] [] 0 0 (d' := d - 1) rfl rfl rfl q9 rfl rfl (by omega) (by omega) (by omega) (mk_put hM rfl) ?_
  rintro rv h1 ⟨rfl, hM⟩
  obtain ⟨S9, q9⟩ := hM.o
  refine ia_go 2 rfl ?_
  refine jd_cV 117 [.int (nI 1)] [] 0 0 (d' := d - 1) rfl rfl rfl q9 rfl rfl (by omega) (by omega) (by omega) (mk_slot (by omega) hM rfl (by omega) hq1) ?_
  rintro rv h1 ⟨rfl, hM⟩
  obtain ⟨S9, q9⟩ := hM.o
  refine ia_go 3 rfl ?_
  refine jd_cV 117 [.int (nI n), .int (nI 1)] [] 0 0 (d' := d - 1) rfl rfl rfl q9 rfl rfl (by omega) (by omega) (by omega) (mk_node (by omega) hM rfl hn1 hn (by omega) ht1) ?_
  rintro rv h1 ⟨rfl, hM⟩
  refine jd_rv0 rfl rfl rfl ⟨rfl, ?_⟩
  refine ⟨_, _, _, hM, rfl, ?_, ?_⟩
  all_goals
    intro i U h
    rcases i with _ | _ | _ | _ | i
    all_goals (first | (simp [rf_k, rf_c] at h; done) | (simp [rf_k, rf_c] at h; subst h; simp [mu, List.append_assoc]; done))
theorem mk_alt {n : Nat} {p q f0 f1 e : List Int32} (hd : 3 ≤ d) (hM : mk h0 h F S L 0 nk o) (hn1 : 1 ≤ n) (hn : n ≤ 16) (ht0 : tm_n F n 0 p) (ht1 : tm_n F n 1 q) (hq0 : tm_s F 0 f0) (hq1 : tm_s F 1 f1) (hq3 : tm_s F 3 e) : ia_Cn pg G kk_M_makeAlternative d 0 0 [.ref 117, .int (nI n)] h (fun rv h' => rv = none ∧ mk_R h0 h' F S (rf_k 4 p q f0 f1 e) (rf_c 4 0 p q f0 f1 e)) := by
  refine jd_met (ls := [.ref 117, .int (nI n), .retAddr 0]) rfl rfl rfl ?_
  refine ia_go 2 rfl ?_
  dsimp only [ia_s1, ia_s2, ia_cl, ia_D, List.getElem?_cons_zero, List.getElem?_cons_succ, List.set_cons_zero, List.set_cons_succ]
  refine ia_go 3 rfl ?_
  rw [if_neg (by decide)]
  obtain ⟨S9, q9⟩ := hM.o
  refine ia_go 4 rfl ?_
  refine jd_cV 117 [.int (nI 0)] [] 0 0 (d' := d - 1) rfl rfl rfl q9 rfl rfl (by omega) (by omega) (by omega) (mk_open hM (by omega)) ?_
  rintro rv h1 ⟨rfl, hM⟩
  obtain ⟨S9, q9⟩ := hM.o
  refine ia_go 2 rfl ?_
  refine jd_cV 117 [.int 38] [] 0 0 (d' := d - 1) rfl rfl rfl q9 rfl rfl (by omega) (by omega) (by omega) (mk_put hM rfl) ?_
  rintro rv h1 ⟨rfl, hM⟩
  obtain ⟨S9, q9⟩ := hM.o
  refine ia_go 3 rfl ?_
  refine jd_cV 117 [.int (nI n), .int (nI 0)] [] 0 0 (d' := d - 1) rfl rfl rfl q9 rfl rfl (by omega) (by omega) (by omega) (mk_node (by omega) hM rfl hn1 hn (by omega) ht0) ?_
  rintro rv h1 ⟨rfl, hM⟩
  refine ia_go 3 rfl ?_
  rw [if_pos (by decide)]
  obtain ⟨S9, q9⟩ := hM.o
  refine ia_go 2 rfl ?_
  refine jd_cV 117 [.int (nI 0)] [] 0 0 (d' := d - 1) rfl rfl rfl q9 rfl rfl (by omega) (by omega) (by omega) (mk_slot (by omega) hM rfl (by omega) hq0) ?_
  rintro rv h1 ⟨rfl, hM⟩
  obtain ⟨S9, q9⟩ := hM.o
  refine ia_go 6 rfl ?_
  refine jd_cV 117 [.int (nI 1)] [] 0 0 (d' := d - 1) rfl rfl rfl q9 rfl rfl (by omega) (by omega) (by omega) (mk_open hM (by omega)) ?_
  rintro rv h1 ⟨rfl, hM⟩
  obtain ⟨S9, q9⟩ := hM.o
  refine ia_go 3 rfl ?_
  refine jd_cV 117 [.int (nI n), .int (nI 1)] [] 0 0 (d' := d - 1) rfl rfl rfl q9 rfl rfl (by omega) (by omega) (by omega) (mk_node (by omega) hM rfl hn1 hn (by omega) ht1) ?_
  rintro rv h1 ⟨rfl, hM⟩
  refine ia_go 1 rfl ?_
  dsimp only [ia_s1, ia_s2, ia_cl, ia_D, List.getElem?_cons_zero, List.getElem?_cons_succ, List.set_cons_zero, List.set_cons_succ]
  refine ia_go 4 rfl ?_
  rw [if_neg (by decide)]
  obtain ⟨S9, q9⟩ := hM.o
  refine ia_go 4 rfl ?_
  refine jd_cV 117 [.int (nI 2)] [] 0 0 (d' := d - 1) rfl rfl rfl q9 rfl rfl (by omega) (by omega) (by omega) (mk_open hM (by omega)) ?_
  rintro rv h1 ⟨rfl, hM⟩
  obtain ⟨S9, q9⟩ := hM.o
  refine ia_go 2 rfl ?_
  refine jd_cV 117 [.int 38] [] 0 0 (d' := d - 1) rfl rfl rfl q9 rfl rfl (by omega) (by omega) (by omega) (mk_put hM rfl) ?_
  rintro rv h1 ⟨rfl, hM⟩
  obtain ⟨S9, q9⟩ := hM.o
  refine ia_go 3 rfl ?_
  refine jd_cV 117 [.int (nI n), .int (nI 0)] [] 0 0 (d' := d - 1) rfl rfl rfl q9 rfl rfl (by omega) (by omega) (by omega) (mk_node (by omega) hM rfl hn1 hn (by omega) ht0) ?_
  rintro rv h1 ⟨rfl, hM⟩
  refine ia_go 3 rfl ?_
  rw [if_neg (fun z => z (by decide))]
  obtain ⟨S9, q9⟩ := hM.o
  refine ia_go 2 rfl ?_
  refine jd_cV 117 [.int 33] [] 0 0 (d' := d - 1) rfl rfl rfl q9 rfl rfl (by omega) (by omega) (by omega) (mk_put hM rfl) ?_
  rintro rv h1 ⟨rfl, hM⟩
  obtain ⟨S9, q9⟩ := hM.o
  refine ia_go 2 rfl ?_
  refine jd_cV 117 [.int (nI 0)] [] 0 0 (d' := d - 1) rfl rfl rfl q9 rfl rfl (by omega) (by omega) (by omega) (mk_slot (by omega) hM rfl (by omega) hq0) ?_
  rintro rv h1 ⟨rfl, hM⟩
  obtain ⟨S9, q9⟩ := hM.o
  refine ia_go 6 rfl ?_
  refine jd_cV 117 [.int (nI 3)] [] 0 0 (d' := d - 1) rfl rfl rfl q9 rfl rfl (by omega) (by omega) (by omega) (mk_open hM (by omega)) ?_
  rintro rv h1 ⟨rfl, hM⟩
  obtain ⟨S9, q9⟩ := hM.o
  refine ia_go 3 rfl ?_
  refine jd_cV 117 [.int (nI n), .int (nI 1)] [] 0 0 (d' := d - 1) rfl rfl rfl q9 rfl rfl (by omega) (by omega) (by omega) (mk_node (by omega) hM rfl hn1 hn (by omega) ht1) ?_
  rintro rv h1 ⟨rfl, hM⟩
  refine ia_go 1 rfl ?_
  dsimp only [ia_s1, ia_s2, ia_cl, ia_D, List.getElem?_cons_zero, List.getElem?_cons_succ, List.set_cons_zero, List.set_cons_succ]
  refine ia_go 4 rfl ?_
  rw [if_pos (by decide)]
  refine ia_go 2 rfl ?_
  refine mk_kids (q := 2) rfl hM (fun h1 hM => ?_)
  refine jd_rv0 rfl rfl rfl ⟨rfl, ?_⟩
  refine ⟨_, _, _, hM, rfl, ?_, ?_⟩
  all_goals
    intro i U h
    rcases i with _ | _ | _ | _ | i
    all_goals (first | (simp [rf_k, rf_c] at h; done) | (simp [rf_k, rf_c] at h; subst h; simp [mu, List.append_assoc]; done))
theorem mk_one6 {n : Nat} {p q f0 f1 e : List Int32} (hd : 3 ≤ d) (hM : mk h0 h F S L 0 nk o) (hn1 : 1 ≤ n) (hn : n ≤ 16) (ht0 : tm_n F n 0 p) (ht1 : tm_n F n 1 q) (hq0 : tm_s F 0 f0) (hq1 : tm_s F 1 f1) (hq3 : tm_s F 3 e) : ia_Cn pg G kk_M_makeOne d 0 0 [.ref 117, .int (nI n), .int 6] h (fun rv h' => rv = none ∧ mk_R h0 h' F S (rf_k 6 p q f0 f1 e) (rf_c 6 0 p q f0 f1 e)) := by
  refine jd_met (ls := [.ref 117, .int (nI n), .int 6]) rfl rfl rfl ?_
  obtain ⟨S9, q9⟩ := hM.o
  refine ia_go 2 rfl ?_
  refine jd_cV 117 [.int (nI 0)] [] 0 0 (d' := d - 1) rfl rfl rfl q9 rfl rfl (by omega) (by omega) (by omega) (mk_open hM (by omega)) ?_
  rintro rv h1 ⟨rfl, hM⟩
  refine ia_go 3 rfl ?_
  rw [if_pos (by decide)]
  obtain ⟨S9, q9⟩ := hM.o
  refine ia_go 3 rfl ?_
  refine jd_cV 117 [.int (nI n), .int (nI 0)] [] 0 0 (d' := d - 1) rfl rfl rfl q9 rfl rfl (by omega) (by omega) (by omega) (mk_node (by omega) hM rfl hn1 hn (by omega) ht0) ?_
  rintro rv h1 ⟨rfl, hM⟩
  obtain ⟨S9, q9⟩ := hM.o
  refine ia_go 2 rfl ?_
  refine jd_cV 117 [.int (nI 1)] [] 0 0 (d' := d - 1) rfl rfl rfl q9 rfl rfl (by omega) (by omega) (by omega) (mk_open hM (by omega)) ?_
  rintro rv h1 ⟨rfl, hM⟩
  refine ia_go 3 rfl ?_
  rw [if_neg (fun z => z (by decide))]
  obtain ⟨S9, q9⟩ := hM.o
  refine ia_go 2 rfl ?_
  refine jd_cV 117 [.int (nI 0)] [] 0 0 (d' := d - 1) rfl rfl rfl q9 rfl rfl (by omega) (by omega) (by omega) (mk_slot (by omega) hM rfl (by omega) hq0) ?_
  rintro rv h1 ⟨rfl, hM⟩
  refine ia_go 3 rfl ?_
  refine mk_kids (q := 1) rfl hM (fun h1 hM => ?_)
  refine ia_go 3 rfl ?_
  rw [if_pos (by decide)]
  obtain ⟨S9, q9⟩ := hM.o
  refine ia_go 1 rfl ?_
  refine jd_cV 117 [] [] 0 0 (d' := d - 1) rfl rfl rfl q9 rfl rfl (by omega) (by omega) (by omega) (mk_cond (by omega) hM (by omega)) ?_
  rintro rv h1 ⟨rfl, hM⟩
  refine ia_go 3 rfl ?_
  rw [if_neg (fun z => z (by decide))]
  obtain ⟨S9, q9⟩ := hM.o
  refine ia_go 2 rfl ?_
  refine jd_cV 117 [.int (nI 0)] [] 0 0 (d' := d - 1) rfl rfl rfl q9 rfl rfl (by omega) (by omega) (by omega) (mk_slot (by omega) hM rfl (by omega) hq0) ?_
  rintro rv h1 ⟨rfl, hM⟩
  obtain ⟨S9, q9⟩ := hM.o
  refine ia_go 3 rfl ?_
  refine jd_cV 117 [.int (nI n), .int (nI 1)] [] 0 0 (d' := d - 1) rfl rfl rfl q9 rfl rfl (by omega) (by omega) (by omega) (mk_node (by omega) hM rfl hn1 hn (by omega) ht1) ?_
  rintro rv h1 ⟨rfl, hM⟩
  refine ia_go 1 rfl ?_
  refine jd_rv0 rfl rfl rfl ⟨rfl, ?_⟩
  refine ⟨_, _, _, hM, rfl, ?_, ?_⟩
  all_goals
    intro i U h
    rcases i with _ | _ | _ | _ | i
    all_goals (first | (simp [rf_k, rf_c] at h; done) | (simp [rf_k, rf_c] at h; subst h; simp [mu, List.append_assoc]; done))
theorem mk_one7 {n : Nat} {p q f0 f1 e : List Int32} (hd : 3 ≤ d) (hM : mk h0 h F S L 0 nk o) (hn1 : 1 ≤ n) (hn : n ≤ 16) (ht0 : tm_n F n 0 p) (ht1 : tm_n F n 1 q) (hq0 : tm_s F 0 f0) (hq1 : tm_s F 1 f1) (hq3 : tm_s F 3 e) : ia_Cn pg G kk_M_makeOne d 0 0 [.ref 117, .int (nI n), .int 7] h (fun rv h' => rv = none ∧ mk_R h0 h' F S (rf_k 7 p q f0 f1 e) (rf_c 7 0 p q f0 f1 e)) := by
  refine jd_met (ls := [.ref 117, .int (nI n), .int 7]) rfl rfl rfl ?_
  obtain ⟨S9, q9⟩ := hM.o
  refine ia_go 2 rfl ?_
  refine jd_cV 117 [.int (nI 0)] [] 0 0 (d' := d - 1) rfl rfl rfl q9 rfl rfl (by omega) (by omega) (by omega) (mk_open hM (by omega)) ?_
  rintro rv h1 ⟨rfl, hM⟩
  refine ia_go 3 rfl ?_
  rw [if_neg (fun z => z (by decide))]
  obtain ⟨S9, q9⟩ := hM.o
  refine ia_go 2 rfl ?_
  refine jd_cV 117 [.int (nI 0)] [] 0 0 (d' := d - 1) rfl rfl rfl q9 rfl rfl (by omega) (by omega) (by omega) (mk_slot (by omega) hM rfl (by omega) hq0) ?_
  rintro rv h1 ⟨rfl, hM⟩
  obtain ⟨S9, q9⟩ := hM.o
  refine ia_go 3 rfl ?_
  refine jd_cV 117 [.int (nI 1)] [] 0 0 (d' := d - 1) rfl rfl rfl q9 rfl rfl (by omega) (by omega) (by omega) (mk_open hM (by omega)) ?_
  rintro rv h1 ⟨rfl, hM⟩
  refine ia_go 3 rfl ?_
  rw [if_pos (by decide)]
  obtain ⟨S9, q9⟩ := hM.o
  refine ia_go 3 rfl ?_
  refine jd_cV 117 [.int (nI n), .int (nI 1)] [] 0 0 (d' := d - 1) rfl rfl rfl q9 rfl rfl (by omega) (by omega) (by omega) (mk_node (by omega) hM rfl hn1 hn (by omega) ht1) ?_
  rintro rv h1 ⟨rfl, hM⟩
  refine ia_go 2 rfl ?_
  refine mk_kids (q := 1) rfl hM (fun h1 hM => ?_)
  refine ia_go 3 rfl ?_
  rw [if_pos (by decide)]
  obtain ⟨S9, q9⟩ := hM.o
  refine ia_go 1 rfl ?_
  refine jd_cV 117 [] [] 0 0 (d' := d - 1) rfl rfl rfl q9 rfl rfl (by omega) (by omega) (by omega) (mk_cond (by omega) hM (by omega)) ?_
  rintro rv h1 ⟨rfl, hM⟩
  refine ia_go 3 rfl ?_
  rw [if_pos (by decide)]
  obtain ⟨S9, q9⟩ := hM.o
  refine ia_go 3 rfl ?_
  refine jd_cV 117 [.int (nI n), .int (nI 0)] [] 0 0 (d' := d - 1) rfl rfl rfl q9 rfl rfl (by omega) (by omega) (by omega) (mk_node (by omega) hM rfl hn1 hn (by omega) ht0) ?_
  rintro rv h1 ⟨rfl, hM⟩
  obtain ⟨S9, q9⟩ := hM.o
  refine ia_go 2 rfl ?_
  refine jd_cV 117 [.int (nI 0)] [] 0 0 (d' := d - 1) rfl rfl rfl q9 rfl rfl (by omega) (by omega) (by omega) (mk_slot (by omega) hM rfl (by omega) hq0) ?_
  rintro rv h1 ⟨rfl, hM⟩
  refine jd_rv0 rfl rfl rfl ⟨rfl, ?_⟩
  refine ⟨_, _, _, hM, rfl, ?_, ?_⟩
  all_goals
    intro i U h
    rcases i with _ | _ | _ | _ | i
    all_goals (first | (simp [rf_k, rf_c] at h; done) | (simp [rf_k, rf_c] at h; subst h; simp [mu, List.append_assoc]; done))
theorem mk_one8 {n : Nat} {p q f0 f1 e : List Int32} (hd : 3 ≤ d) (hM : mk h0 h F S L 0 nk o) (hn1 : 1 ≤ n) (hn : n ≤ 16) (ht0 : tm_n F n 0 p) (ht1 : tm_n F n 1 q) (hq0 : tm_s F 0 f0) (hq1 : tm_s F 1 f1) (hq3 : tm_s F 3 e) : ia_Cn pg G kk_M_makeOne d 0 0 [.ref 117, .int (nI n), .int 8] h (fun rv h' => rv = none ∧ mk_R h0 h' F S (rf_k 8 p q f0 f1 e) (rf_c 8 0 p q f0 f1 e)) := by
  refine jd_met (ls := [.ref 117, .int (nI n), .int 8]) rfl rfl rfl ?_
  obtain ⟨S9, q9⟩ := hM.o
  refine ia_go 2 rfl ?_
  refine jd_cV 117 [.int (nI 0)] [] 0 0 (d' := d - 1) rfl rfl rfl q9 rfl rfl (by omega) (by omega) (by omega) (mk_open hM (by omega)) ?_
  rintro rv h1 ⟨rfl, hM⟩
  refine ia_go 3 rfl ?_
  rw [if_pos (by decide)]
  obtain ⟨S9, q9⟩ := hM.o
  refine ia_go 3 rfl ?_
  refine jd_cV 117 [.int (nI n), .int (nI 0)] [] 0 0 (d' := d - 1) rfl rfl rfl q9 rfl rfl (by omega) (by omega) (by omega) (mk_node (by omega) hM rfl hn1 hn (by omega) ht0) ?_
  rintro rv h1 ⟨rfl, hM⟩
  obtain ⟨S9, q9⟩ := hM.o
  refine ia_go 2 rfl ?_
  refine jd_cV 117 [.int (nI 1)] [] 0 0 (d' := d - 1) rfl rfl rfl q9 rfl rfl (by omega) (by omega) (by omega) (mk_open hM (by omega)) ?_
  rintro rv h1 ⟨rfl, hM⟩
  refine ia_go 3 rfl ?_
  rw [if_pos (by decide)]
  obtain ⟨S9, q9⟩ := hM.o
  refine ia_go 3 rfl ?_
  refine jd_cV 117 [.int (nI n), .int (nI 1)] [] 0 0 (d' := d - 1) rfl rfl rfl q9 rfl rfl (by omega) (by omega) (by omega) (mk_node (by omega) hM rfl hn1 hn (by omega) ht1) ?_
  rintro rv h1 ⟨rfl, hM⟩
  refine ia_go 2 rfl ?_
  refine mk_kids (q := 1) rfl hM (fun h1 hM => ?_)
  refine ia_go 3 rfl ?_
  rw [if_neg (fun z => z (by decide))]
  refine jd_rv0 rfl rfl rfl ⟨rfl, ?_⟩
  refine ⟨_, _, _, hM, rfl, ?_, ?_⟩
  all_goals
    intro i U h
    rcases i with _ | _ | _ | _ | i
    all_goals (first | (simp [rf_k, rf_c] at h; done) | (simp [rf_k, rf_c] at h; subst h; simp [mu, List.append_assoc]; done))
end MK
