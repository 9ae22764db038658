/-! THE CLASS, 14: the program runs. -/
theorem an_b : ∀ i : Fin 64, (1#64).getLsbD i.val = decide (i.val = 0) ∧ (2#64).getLsbD i.val = decide (i.val = 1) ∧ (4#64).getLsbD i.val = decide (i.val = 2) := by decide +kernel
theorem an_1 (x : Int64) : x &&& 1 = if bz x 0 = true then 1 else 0 := by
  apply Int64.toBitVec_inj.mp
  apply BitVec.eq_of_getLsbD_eq
  intro i hi
  rw [Int64.toBitVec_and, BitVec.getLsbD_and, show (1 : Int64).toBitVec = 1#64 from rfl, (an_b ⟨i, hi⟩).1]
  by_cases h : i = 0
  · subst h
    by_cases b : bz x 0 = true
    · rw [if_pos b]; simp [show x.toBitVec.getLsbD 0 = true from b]
    · rw [if_neg b, show x.toBitVec.getLsbD 0 = false from Bool.eq_false_iff.mpr b]; simp
  · by_cases b : bz x 0 = true
    · rw [if_pos b, show (1 : Int64).toBitVec = 1#64 from rfl, (an_b ⟨i, hi⟩).1]; simp [h]
    · rw [if_neg b]; simp [h]
theorem an_2 (x : Int64) : x &&& 2 = if bz x 1 = true then 2 else 0 := by
  apply Int64.toBitVec_inj.mp
  apply BitVec.eq_of_getLsbD_eq
  intro i hi
  rw [Int64.toBitVec_and, BitVec.getLsbD_and, show (2 : Int64).toBitVec = 2#64 from rfl, (an_b ⟨i, hi⟩).2.1]
  by_cases h : i = 1
  · subst h
    by_cases b : bz x 1 = true
    · rw [if_pos b]; simp [show x.toBitVec.getLsbD 1 = true from b]
    · rw [if_neg b, show x.toBitVec.getLsbD 1 = false from Bool.eq_false_iff.mpr b]; simp
  · by_cases b : bz x 1 = true
    · rw [if_pos b, show (2 : Int64).toBitVec = 2#64 from rfl, (an_b ⟨i, hi⟩).2.1]; simp [h]
    · rw [if_neg b]; simp [h]
theorem an_4 (x : Int64) : x &&& 4 = if bz x 2 = true then 4 else 0 := by
  apply Int64.toBitVec_inj.mp
  apply BitVec.eq_of_getLsbD_eq
  intro i hi
  rw [Int64.toBitVec_and, BitVec.getLsbD_and, show (4 : Int64).toBitVec = 4#64 from rfl, (an_b ⟨i, hi⟩).2.2]
  by_cases h : i = 2
  · subst h
    by_cases b : bz x 2 = true
    · rw [if_pos b]; simp [show x.toBitVec.getLsbD 2 = true from b]
    · rw [if_neg b, show x.toBitVec.getLsbD 2 = false from Bool.eq_false_iff.mpr b]; simp
  · by_cases b : bz x 2 = true
    · rw [if_pos b, show (4 : Int64).toBitVec = 4#64 from rfl, (an_b ⟨i, hi⟩).2.2]; simp [h]
    · rw [if_neg b]; simp [h]
theorem bn_inj : ∀ a b c a' b' c' : Bool, bt_n (a, b, c) = bt_n (a', b', c') → a = a' ∧ b = b' ∧ c = c' := by decide +kernel
theorem bn_or : ∀ a b c : Bool, ((if a = true then (1 : Int64) else 0) ||| (if b = true then 2 else 0) ||| (if c = true then 4 else 0)).toInt32 = bt_n (a, b, c) := by decide +kernel
theorem bn_7 : ∀ a b c : Bool, bt_n (a, b, c) = nI 0 ∨ bt_n (a, b, c) = nI 1 ∨ bt_n (a, b, c) = nI 2 ∨ bt_n (a, b, c) = nI 3 ∨ bt_n (a, b, c) = nI 4 ∨ bt_n (a, b, c) = nI 5 ∨ bt_n (a, b, c) = nI 6 ∨ bt_n (a, b, c) = nI 7 := by decide +kernel
theorem bt_num8 {J : Int64 × Int64 × Int64} {w : Int32} (h0 : bt_n (bt_3 0 J) = w) (h1 : bt_n (bt_3 1 J) = w) (h2 : bt_n (bt_3 2 J) = w) : (J.1 &&& 1 ||| J.2.1 &&& 2 ||| J.2.2 &&& 4).toInt32 = w ∧ ∃ k, k ≤ 7 ∧ w = nI k := by
  obtain ⟨a, b, c⟩ := J
  have e1 := bn_inj _ _ _ _ _ _ (h1.trans h0.symm)
  have e2 := bn_inj _ _ _ _ _ _ (h2.trans h0.symm)
  constructor
  · show (a &&& 1 ||| b &&& 2 ||| c &&& 4).toInt32 = w
    rw [an_1, an_2, an_4, bn_or]
    rw [show bz b 1 = bz b 0 from e1.2.1, show bz c 2 = bz c 0 from e2.2.2]
    exact h0
  · rw [← h0]
    rcases bn_7 (bz a 0) (bz b 0) (bz c 0) with z | z | z | z | z | z | z | z
    · exact ⟨0, by omega, z⟩
    · exact ⟨1, by omega, z⟩
    · exact ⟨2, by omega, z⟩
    · exact ⟨3, by omega, z⟩
    · exact ⟨4, by omega, z⟩
    · exact ⟨5, by omega, z⟩
    · exact ⟨6, by omega, z⟩
    · exact ⟨7, by omega, z⟩
theorem and7 (x : Int32) : ∃ k, k ≤ 7 ∧ x &&& 7 = nI k := by
  have hb : (x &&& 7).toBitVec.toNat ≤ 7 := by
    rw [Int32.toBitVec_and, BitVec.toNat_and]
    exact Nat.and_le_right
  refine ⟨(x &&& 7).toBitVec.toNat, hb, ?_⟩
  apply Int32.toBitVec_inj.mp
  show (x &&& 7).toBitVec = BitVec.ofNat 32 (x &&& 7).toBitVec.toNat
  simp
theorem z_free {a b c x : Int32} {t : List Int32} (hz : ¬ 122 ∈ t) (z z' : Int32) : tx_x (tx_g a b c x z) t = tx_x (tx_g a b c x z') t := by
  unfold tx_x
  rw [tx_e_ext (g := tx_g a b c x z) (g' := tx_g a b c x z')]
  intro ch hc
  have n : (ch == 122) = false := by
    rw [beq_eq_false_iff_ne]
    intro e
    exact hz (e ▸ hc)
  unfold tx_g
  rw [n]
  rfl
/-- a state of the three variables -/
def s8 (st : Nat → Int32) : Prop := ∀ j, j < 3 → ∃ k, k ≤ 7 ∧ st j = nI k
theorem rs_num {st : Nat → Int32} {g : List Int32} (hs : s8 st) (hg : tx_T g) (hz : ¬ 122 ∈ g) : ((jg_v (st 0) (st 1) (st 2) g).1 &&& 1 ||| (jg_v (st 0) (st 1) (st 2) g).2.1 &&& 2 ||| (jg_v (st 0) (st 1) (st 2) g).2.2 &&& 4).toInt32 = rs st g ∧ ∃ k, k ≤ 7 ∧ rs st g = nI k := by
  obtain ⟨a, ha, ea⟩ := hs 0 (by omega)
  obtain ⟨b, hb, eb⟩ := hs 1 (by omega)
  obtain ⟨c, hc, ec⟩ := hs 2 (by omega)
  unfold rs
  rw [ea, eb, ec]
  have key : ∀ z : Fin 8, bt_n (bt_3 z.val (jg_v (nI a) (nI b) (nI c) g)) = tx_x (tx_g (nI a) (nI b) (nI c) 0 0) g := by
    intro z
    have h := bt_N (a := ⟨a, by omega⟩) (b := ⟨b, by omega⟩) (c := ⟨c, by omega⟩) (x := ⟨0, by omega⟩) (z := z) hg
    rw [show 8 * (⟨0, by omega⟩ : Fin 8).val + z.val = z.val by show 8 * 0 + z.val = z.val; omega] at h
    rw [← h]
    exact z_free hz _ _
  exact bt_num8 (key 0) (key 1) (key 2)
theorem rs_tru {st : Nat → Int32} {g : List Int32} (hs : s8 st) (hg : tx_F g) : rs st g = if bz (jg_v (st 0) (st 1) (st 2) g).1 0 = true then 1 else 0 := by
  obtain ⟨a, ha, ea⟩ := hs 0 (by omega)
  obtain ⟨b, hb, eb⟩ := hs 1 (by omega)
  obtain ⟨c, hc, ec⟩ := hs 2 (by omega)
  unfold rs
  rw [ea, eb, ec]
  exact bt_F (a := ⟨a, by omega⟩) (b := ⟨b, by omega⟩) (c := ⟨c, by omega⟩) (x := ⟨0, by omega⟩) (z := ⟨0, by omega⟩) hg
theorem kn_get {C : List (Nat × Nat × Nat)} {a : Nat} (h : a < C.length) : C[a]? = some (kn C a) := by
  unfold kn
  rw [List.getD_eq_getElem?_getD, List.getElem?_eq_getElem h]; rfl
/-- while the program runs: h1 is the heap behind the laying out -/
def rnh (h1 h : ia_H) (C : List (Nat × Nat × Nat)) (u v : Nat) (gt : Nat → List Int32) (st : Nat → Int32) : Prop := cx_jg h ∧ (∃ f, h.1 112 = some (.inl (.int, 3, f)) ∧ ∀ j, j < 3 → f j = .int (st j)) ∧ sx_fr h1 h (fun q => jg_S q ∨ q = 112) ∧ h.2 = h1.2
/-- the program keeps within itself -/
def cwp (C : List (Nat × Nat × Nat)) (gt : Nat → List Int32) : Prop := C.length ≤ 33 ∧ ∀ a, a < C.length → (kn C a).1 = 4 ∨ ((kn C a).1 = 1 ∧ (kn C a).2.1 ≤ 2 ∧ a + 1 < C.length ∧ tx_T (gt (kn C a).2.2) ∧ (¬ 122 ∈ gt (kn C a).2.2) ∧ (gt (kn C a).2.2).length ≤ 120) ∨ ((kn C a).1 = 2 ∧ (kn C a).2.1 < C.length ∧ a + 1 < C.length ∧ tx_F (gt (kn C a).2.2) ∧ (gt (kn C a).2.2).length ≤ 120) ∨ ((kn C a).1 = 3 ∧ (kn C a).2.1 < C.length)
section RN5
variable {G : ia_G} {h1 h : ia_H} {d u v s : Nat} {C : List (Nat × Nat × Nat)} {gt : Nat → List Int32} {st : Nat → Int32}
/-- the rows stand while it runs -/
theorem rnh.row (x : rnh h1 h C u v gt st) (h142 : 142 ≤ h1.2) {q : Nat} (h2 : q < h1.2) (h3 : q < 72 ∨ 75 < q) (h4 : q ≠ 112) : h.1 q = h1.1 q := x.2.2.1.2 q h2 (fun z => by
  rcases z with z | z
  · have := z.1; have := z.2; omega
  · exact h4 z)
theorem cl_isEnd (x : rnh h1 h C u v gt st) (h142 : 142 ≤ h1.2) (hcd : cx_cd h1) (hC : crw h1 u v gt 0 C) (hl : C.length ≤ 33) {a : Nat} (ha : a < C.length) (h4 : (kn C a).1 ≤ 4) : ia_Cn pg G kk_C_isEnd d 0 0 [.ref 76, .int (nI a)] h (fun rv h' => rv = some (.int (if (kn C a).1 = 4 then 1 else 0)) ∧ h' = h) := by
  obtain ⟨⟨s0, e76⟩, ⟨f, e77, g77⟩, -⟩ := id hcd
  obtain ⟨p, er, -⟩ := hC a _ (kn_get ha)
  rw [Nat.zero_add] at er
  by_cases z : (kn C a).1 = 4
  · rw [if_pos z]
    refine jd_met (ls := [.ref 76, .int (nI a)]) rfl rfl rfl ?_
    refine ia_go 1 rfl ?_
    refine ia_getf rfl ((x.row h142 (by omega) (by omega) (by omega)).trans e76) rfl ?_
    refine ia_go 1 rfl ?_
    refine ia_aald rfl ((x.row h142 (by omega) (by omega) (by omega)).trans e77) (vp_in_nI (by omega) (by omega)) (v := .ref (78 + a)) (by rw [nI_clamp (by omega), g77 a (by omega)]) ?_
    refine ia_getf rfl ((x.row h142 (by omega) (by omega) (by omega)).trans er) rfl ?_
    refine ia_go 2 rfl ?_
    rw [if_neg (by exact (fun w => w (by rw [z]; rfl)))]
    refine ia_go 2 rfl ?_
    exact jd_rv1 rfl rfl rfl rfl ⟨rfl, rfl⟩
  · rw [if_neg z]
    refine jd_met (ls := [.ref 76, .int (nI a)]) rfl rfl rfl ?_
    refine ia_go 1 rfl ?_
    refine ia_getf rfl ((x.row h142 (by omega) (by omega) (by omega)).trans e76) rfl ?_
    refine ia_go 1 rfl ?_
    refine ia_aald rfl ((x.row h142 (by omega) (by omega) (by omega)).trans e77) (vp_in_nI (by omega) (by omega)) (v := .ref (78 + a)) (by rw [nI_clamp (by omega), g77 a (by omega)]) ?_
    refine ia_getf rfl ((x.row h142 (by omega) (by omega) (by omega)).trans er) rfl ?_
    refine ia_go 2 rfl ?_
    rw [if_pos (by exact (fun w => z ((nI_eq (b := 4) (by omega) (by omega)).mp w)))]
    refine ia_go 1 rfl ?_
    exact jd_rv1 rfl rfl rfl rfl ⟨rfl, rfl⟩
theorem rnh.jx {h2 : ia_H} {F1 F2 F3 : Nat → Int64} {n : Nat} (x : rnh h1 h C u v gt st) (h142 : 142 ≤ h1.2) (hX : jg_X h h2 F1 F2 F3 n) : rnh h1 h2 C u v gt st := by
  obtain ⟨-, ⟨f, e, g⟩, hf, hs⟩ := x
  refine ⟨⟨F1, F2, F3, n, hX.1⟩, ⟨f, (hX.2.1.2 112 (by omega) (fun z => by have := z.2; omega)).trans e, g⟩, hf.tr (hX.2.1.mono (fun q z => Or.inl z)), by have := hX.2.2; omega⟩
theorem cl_next (hd : 7 ≤ d) (x : rnh h1 h C u v gt st) (h142 : 142 ≤ h1.2) (hcd : cx_cd h1) (hjg : cx_jg h1) (h112 : ∃ f, h1.1 112 = some (.inl (.int, 3, f))) (hC : crw h1 u v gt 0 C) (hw : cwp C gt) (hs : s8 st) {a : Nat} (ha : a < C.length) (n4 : (kn C a).1 ≠ 4) : ia_Cn pg G kk_C_next d 0 0 [.ref 76, .int (nI a), .ref 112, .ref 72] h (fun rv h' => rv = some (.int (nI (ra C gt a st))) ∧ rnh h1 h' C u v gt (rt C gt a st) ∧ s8 (rt C gt a st) ∧ ra C gt a st < C.length) := by
  obtain ⟨l33, hw⟩ := hw
  obtain ⟨⟨s0, e76⟩, ⟨f, e77, g77⟩, -⟩ := id hcd
  obtain ⟨p, er, hp⟩ := hC a _ (kn_get ha)
  rw [Nat.zero_add] at er
  obtain ⟨⟨F1, F2, F3, nj, hj⟩, ⟨f2, e112, g112⟩, hfr, hsz⟩ := id x
  have b76 := (x.row h142 (q := 76) (by omega) (by omega) (by omega)).trans e76
  have b77 := (x.row h142 (q := 77) (by omega) (by omega) (by omega)).trans e77
  have br := (x.row h142 (q := 78 + a) (by omega) (by omega) (by omega)).trans er
  have kt : ks h1 h u v u v := by
    refine ks_fr hfr (fun q hq => ?_) (Or.inl rfl) (Or.inl rfl)
    right; right
    rcases hq with hq | rfl
    · obtain ⟨G1, G2, G3, gn, gj⟩ := hjg
      exact jg_off gj q hq
    · obtain ⟨f', e'⟩ := h112
      exact ⟨fun r w => (by rw [e'] at w; cases w), fun n f w => (by rw [e'] at w; cases w)⟩
  rcases hw a ha with z | ⟨z, q1, q2, q3, q4, q5⟩ | ⟨z, q1, q2, q3, q5⟩ | ⟨z, q1⟩
  · exact absurd z n4
  · -- an assignment
    obtain ⟨b, rfl, tb⟩ := hp (Or.inl z)
    have tb' := (kt _ _ tb).s
    have rn := rs_num hs q3 q4
    have ra' : ra C gt a st = a + 1 := by unfold ra; rw [if_neg (by omega), if_neg (fun w => by omega)]
    have rt' : rt C gt a st = fun j => if j = (kn C a).2.1 then rs st (gt (kn C a).2.2) else st j := by unfold rt; rw [if_pos z]
    rw [ra', rt']
    rw [z] at br
    generalize (kn C a).2.1 = gl at *
    refine jd_met (ls := [.ref 76, .int (nI a), .ref 112, .ref 72, .retAddr 0, .retAddr 0]) rfl rfl rfl ?_
    refine ia_go 1 rfl ?_
    refine ia_getf rfl b76 rfl ?_
    refine ia_go 1 rfl ?_
    refine ia_aald rfl b77 (vp_in_nI (by omega) (by omega)) (v := .ref (78 + a)) (by rw [nI_clamp (by omega), g77 a (by omega)]) ?_
    refine ia_go 1 rfl ?_
    dsimp only [ia_s1, ia_s2, ia_cl, ia_D, List.getElem?_cons_zero, List.getElem?_cons_succ, List.set_cons_zero, List.set_cons_succ]
    refine ia_go 1 rfl ?_
    refine ia_getf rfl br rfl ?_
    refine ia_go 2 rfl ?_
    rw [if_pos (by exact (by decide))]
    refine ia_go 1 rfl ?_
    refine ia_getf rfl br rfl ?_
    refine ia_go 2 rfl ?_
    rw [if_neg (by exact (fun w => w (by decide)))]
    refine ia_go 2 rfl ?_
    refine ia_getf rfl br rfl ?_
    refine ia_go 2 rfl ?_
    refine ia_getf rfl br rfl ?_
    refine ia_go 2 rfl ?_
    refine ia_iald rfl e112 (by unfold vp_in; decide) (v := .int (st 0)) (g112 0 (by omega)) ?_
    refine ia_go 2 rfl ?_
    refine ia_iald rfl e112 (by unfold vp_in; decide) (v := .int (st 1)) (g112 1 (by omega)) ?_
    refine ia_go 2 rfl ?_
    refine ia_iald rfl e112 (by unfold vp_in; decide) (v := .int (st 2)) (g112 2 (by omega)) ?_
    refine jd_cV 72 [.ref b, .int (st 0), .int (st 1), .int (st 2)] [.int (nI gl), .ref 112] 0 0 (d' := d - 1) rfl rfl rfl hj.1 rfl rfl (by omega) (by omega) (by omega) (jg_number (by omega) hj tb' (q3 []) q5) ?_
    rintro rv h2 ⟨rfl, E1, E2, E3, hX⟩
    have x2 := x.jx h142 hX
    obtain ⟨hj2, ⟨f3, e3, g3⟩, hf3, hs3⟩ := id x2
    rw [rn.1]
    refine ia_iast rfl e3 (by omega) (vp_in_nI (by omega) (by omega)) ?_
    refine ia_go 3 rfl ?_
    rw [nI_clamp (by omega), nI_1]
    refine jd_rv1 rfl rfl rfl trivial ⟨rfl, ⟨?_, ⟨_, rfl, fun j hj => ?_⟩, hf3.tr ⟨Nat.le_refl _, fun q _ hS => ia_up_ne (fun w => hS (Or.inr w))⟩, hs3⟩, fun j hj => ?_, q2⟩
    · exact hj2.keep (fun q w1 w2 => ia_up_ne (by omega))
    · show (if j = gl then Value.int (rs st (gt (kn C a).2.2)) else f3 j) = .int (if j = gl then rs st (gt (kn C a).2.2) else st j)
      by_cases e : j = gl
      · rw [if_pos e, if_pos e]
      · rw [if_neg e, if_neg e]; exact g3 j hj
    · show ∃ k, k ≤ 7 ∧ (if j = gl then rs st (gt (kn C a).2.2) else st j) = nI k
      by_cases e : j = gl
      · rw [if_pos e]; exact rn.2
      · rw [if_neg e]; exact hs j hj
  · -- a question
    obtain ⟨b, rfl, tb⟩ := hp (Or.inr z)
    have tb' := (kt _ _ tb).s
    have rn := rs_tru hs q3
    have rt' : rt C gt a st = st := by unfold rt; rw [if_neg (by omega)]
    rw [rt']
    rw [z] at br
    by_cases bt : bz (jg_v (st 0) (st 1) (st 2) (gt (kn C a).2.2)).1 0 = true
    · rw [if_pos bt] at rn
      have ra' : ra C gt a st = a + 1 := by unfold ra; rw [if_neg (by omega), if_neg (fun w => by rw [rn] at w; exact absurd w.2 (by decide))]
      rw [ra']
      refine jd_met (ls := [.ref 76, .int (nI a), .ref 112, .ref 72, .retAddr 0, .retAddr 0]) rfl rfl rfl ?_
      refine ia_go 1 rfl ?_
      refine ia_getf rfl b76 rfl ?_
      refine ia_go 1 rfl ?_
      refine ia_aald rfl b77 (vp_in_nI (by omega) (by omega)) (v := .ref (78 + a)) (by rw [nI_clamp (by omega), g77 a (by omega)]) ?_
      refine ia_go 1 rfl ?_
      dsimp only [ia_s1, ia_s2, ia_cl, ia_D, List.getElem?_cons_zero, List.getElem?_cons_succ, List.set_cons_zero, List.set_cons_succ]
      refine ia_go 1 rfl ?_
      refine ia_getf rfl br rfl ?_
      refine ia_go 2 rfl ?_
      rw [if_pos (by exact (by decide))]
      refine ia_go 1 rfl ?_
      refine ia_getf rfl br rfl ?_
      refine ia_go 2 rfl ?_
      rw [if_pos (by exact (by decide))]
      refine ia_go 2 rfl ?_
      refine ia_getf rfl br rfl ?_
      refine ia_go 2 rfl ?_
      refine ia_iald rfl e112 (by unfold vp_in; decide) (v := .int (st 0)) (g112 0 (by omega)) ?_
      refine ia_go 2 rfl ?_
      refine ia_iald rfl e112 (by unfold vp_in; decide) (v := .int (st 1)) (g112 1 (by omega)) ?_
      refine ia_go 2 rfl ?_
      refine ia_iald rfl e112 (by unfold vp_in; decide) (v := .int (st 2)) (g112 2 (by omega)) ?_
      refine jd_cV 72 [.ref b, .int (st 0), .int (st 1), .int (st 2)] [] 0 0 (d' := d - 1) rfl rfl rfl hj.1 rfl rfl (by omega) (by omega) (by omega) (jg_truths (by omega) hj tb' (q3 []) q5) ?_
      rintro rv h2 ⟨rfl, E1, E2, E3, hX⟩
      refine ia_go 2 rfl ?_
      rw [an_1, if_pos bt]
      refine ia_go 3 rfl ?_
      rw [if_neg (by exact (fun w => w (by decide)))]
      refine ia_go 3 rfl ?_
      dsimp only [ia_s1, ia_s2, ia_cl, ia_D, List.getElem?_cons_zero, List.getElem?_cons_succ, List.set_cons_zero, List.set_cons_succ]
      refine ia_go 2 rfl ?_
      rw [if_neg (by exact (by decide))]
      refine ia_go 4 rfl ?_
      rw [nI_1]
      exact jd_rv1 rfl rfl rfl trivial ⟨rfl, x.jx h142 hX, hs, q2⟩
    · rw [if_neg bt] at rn
      have ra' : ra C gt a st = (kn C a).2.1 := by unfold ra; rw [if_neg (by omega), if_pos ⟨z, rn⟩]
      rw [ra']
      refine jd_met (ls := [.ref 76, .int (nI a), .ref 112, .ref 72, .retAddr 0, .retAddr 0]) rfl rfl rfl ?_
      refine ia_go 1 rfl ?_
      refine ia_getf rfl b76 rfl ?_
      refine ia_go 1 rfl ?_
      refine ia_aald rfl b77 (vp_in_nI (by omega) (by omega)) (v := .ref (78 + a)) (by rw [nI_clamp (by omega), g77 a (by omega)]) ?_
      refine ia_go 1 rfl ?_
      dsimp only [ia_s1, ia_s2, ia_cl, ia_D, List.getElem?_cons_zero, List.getElem?_cons_succ, List.set_cons_zero, List.set_cons_succ]
      refine ia_go 1 rfl ?_
      refine ia_getf rfl br rfl ?_
      refine ia_go 2 rfl ?_
      rw [if_pos (by exact (by decide))]
      refine ia_go 1 rfl ?_
      refine ia_getf rfl br rfl ?_
      refine ia_go 2 rfl ?_
      rw [if_pos (by exact (by decide))]
      refine ia_go 2 rfl ?_
      refine ia_getf rfl br rfl ?_
      refine ia_go 2 rfl ?_
      refine ia_iald rfl e112 (by unfold vp_in; decide) (v := .int (st 0)) (g112 0 (by omega)) ?_
      refine ia_go 2 rfl ?_
      refine ia_iald rfl e112 (by unfold vp_in; decide) (v := .int (st 1)) (g112 1 (by omega)) ?_
      refine ia_go 2 rfl ?_
      refine ia_iald rfl e112 (by unfold vp_in; decide) (v := .int (st 2)) (g112 2 (by omega)) ?_
      refine jd_cV 72 [.ref b, .int (st 0), .int (st 1), .int (st 2)] [] 0 0 (d' := d - 1) rfl rfl rfl hj.1 rfl rfl (by omega) (by omega) (by omega) (jg_truths (by omega) hj tb' (q3 []) q5) ?_
      rintro rv h2 ⟨rfl, E1, E2, E3, hX⟩
      refine ia_go 2 rfl ?_
      rw [an_1, if_neg bt]
      refine ia_go 3 rfl ?_
      rw [if_pos (by exact (by decide))]
      refine ia_go 2 rfl ?_
      dsimp only [ia_s1, ia_s2, ia_cl, ia_D, List.getElem?_cons_zero, List.getElem?_cons_succ, List.set_cons_zero, List.set_cons_succ]
      refine ia_go 2 rfl ?_
      rw [if_pos (by exact (by decide))]
      refine ia_go 1 rfl ?_
      refine ia_getf rfl ((hX.2.1.2 (78 + a) (by have := hsz; omega) (fun w => by have := w.2; omega)).trans br) rfl ?_
      exact jd_rv1 rfl rfl rfl trivial ⟨rfl, x.jx h142 hX, hs, q1⟩
  · have ra' : ra C gt a st = (kn C a).2.1 := by unfold ra; rw [if_pos z]
    have rt' : rt C gt a st = st := by unfold rt; rw [if_neg (by omega)]
    rw [ra', rt']
    rw [z] at br
    refine jd_met (ls := [.ref 76, .int (nI a), .ref 112, .ref 72, .retAddr 0, .retAddr 0]) rfl rfl rfl ?_
    refine ia_go 1 rfl ?_
    refine ia_getf rfl b76 rfl ?_
    refine ia_go 1 rfl ?_
    refine ia_aald rfl b77 (vp_in_nI (by omega) (by omega)) (v := .ref (78 + a)) (by rw [nI_clamp (by omega), g77 a (by omega)]) ?_
    refine ia_go 1 rfl ?_
    dsimp only [ia_s1, ia_s2, ia_cl, ia_D, List.getElem?_cons_zero, List.getElem?_cons_succ, List.set_cons_zero, List.set_cons_succ]
    refine ia_go 1 rfl ?_
    refine ia_getf rfl br rfl ?_
    refine ia_go 2 rfl ?_
    rw [if_neg (by exact (fun w => w (by decide)))]
    refine ia_go 1 rfl ?_
    refine ia_getf rfl br rfl ?_
    exact jd_rv1 rfl rfl rfl trivial ⟨rfl, x, hs, q1⟩
end RN5
