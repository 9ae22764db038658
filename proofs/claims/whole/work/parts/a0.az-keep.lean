/-! THE STATE AND THE REFERENCE'S ROWS: what its contracts ask for. -/
theorem sn_of {F F' : Nat → Nat → Int32} {n : Nat} (hn : n ≤ 16) (hF : ∀ k j, k ≤ 12 → (k ≠ 0 ∨ j < 9300) → F' k j = F k j) : sn F F' n :=
  ⟨fun k h1 h2 => hF k n (by omega) (Or.inl (by omega)), fun w t hw h => h.keep (fun j hj => hF 0 _ (by omega) (Or.inr (by omega))) (hF 1 _ (by omega) (Or.inl (by decide))), fun g h => tm_g.keep h (fun j hj => hF 11 _ (by omega) (Or.inl (by decide))) (hF 12 _ (by omega) (Or.inl (by decide)))⟩
theorem RN.kept {x : nN} {F F' : Nat → Nat → Int32} {n : Nat} (h : RN x F n) (hs : sn F F' n) : RN x F' n := by
  obtain ⟨a1, a2, a3⟩ := hs
  obtain ⟨b1, b2⟩ := h
  refine ⟨(a1 2 (by omega) (by omega)).trans b1, fun he => ?_⟩
  obtain ⟨⟨c3, c4, c5, c6, c7, c8, c9, c10⟩, d, g⟩ := b2 he
  refine ⟨⟨(a1 3 (by omega) (by omega)).trans c3, (a1 4 (by omega) (by omega)).trans c4, (a1 5 (by omega) (by omega)).trans c5, (a1 6 (by omega) (by omega)).trans c6, (a1 7 (by omega) (by omega)).trans c7, (a1 8 (by omega) (by omega)).trans c8, (a1 9 (by omega) (by omega)).trans c9, fun q => (a1 10 (by omega) (by omega)).trans (c10 q)⟩, fun w hw => a2 w _ ?_ (d w hw), fun q => a3 _ (g q)⟩
  have := ncw_le (zL x)
  omega
theorem RN.ex {x : nN} {F : Nat → Nat → Int32} {n : Nat} (h : RN x F n) : F 2 n ≠ 0 ↔ zE x = true := by
  rw [h.1]
  by_cases hx : zE x = true
  · rw [if_pos hx]; exact ⟨fun _ => hx, fun _ => by decide⟩
  · rw [if_neg hx]; exact ⟨fun z => absurd rfl z, fun z => absurd z hx⟩
theorem RN.no {x : nN} {F : Nat → Nat → Int32} {n : Nat} (h : RN x F n) : F 2 n = 0 ↔ ¬ zE x = true := by
  constructor
  · intro z q; exact (h.ex.mpr q) z
  · intro z
    rw [h.1, if_neg z]
theorem RI.keep {A : aS} {F F' : Nat → Nat → Int32} {S S' : Nat → Int32} (h : RI A F S) (hF : ∀ k j, (k ≤ 12 ∨ k = 17 ∨ k = 23) → (k ≠ 0 ∨ j < 9300 ∨ 10500 ≤ j) → F' k j = F k j) (h0 : S' 0 = S 0) (h1 : S' 1 = S 1) (h6 : ∃ o, o < 6 ∧ S' 6 = nI o) : RI A F' S' := by
  obtain ⟨⟨b1, b2, b3⟩, q, ⟨s1, s2, -⟩, n, d, w⟩ := h
  exact ⟨⟨b1.keep (fun j hj => hF 0 _ (Or.inl (by omega)) (Or.inr (Or.inr (by omega)))), h0.trans b2, b3⟩, fun i hi => (q i hi).keep (fun j hj => hF 0 _ (Or.inl (by omega)) (Or.inr (Or.inl (by omega)))) (hF 1 _ (Or.inl (by omega)) (Or.inl (by decide))), ⟨h1.trans s1, s2, h6⟩, fun m m1 m2 => (n m m1 m2).kept (sn_of m2 (fun k j hk hj => hF k j (Or.inl hk) (hj.imp id Or.inl))), fun j hj => (hF 17 j (Or.inr (Or.inl rfl)) (Or.inl (by decide))).trans (d j hj), fun j hj => (hF 23 j (Or.inr (Or.inr rfl)) (Or.inl (by decide))).trans (w j hj)⟩
section AK
variable {N : Nat → nN} {F : Nat → Nat → Int32}
theorem AN.rank {n m : Nat} (hm : AN N m) (hE : zE (N m) = true) (hP : zP (N m) = n) (hn : 1 ≤ n) : zR (N m) = zR (N n) + 1 := by
  obtain ⟨-, -, h, -⟩ := hm hE
  rcases h with h | h
  · omega
  · rw [h.2, hP]
theorem az_tr (hN : ∀ n, 1 ≤ n → n ≤ 16 → RN (N n) F n) (hA : ∀ n, 1 ≤ n → n ≤ 16 → AN N n) : tr F (pP N) (fun n => zR (N n)) := by
  refine ⟨rfl, fun n h1 h2 h3 => ?_⟩
  have e := (hN n h1 h2).ex.mp h3
  obtain ⟨⟨-, -, -, -, c7, -⟩, -, -⟩ := (hN n h1 h2).2 e
  obtain ⟨-, -, h, -⟩ := hA n h1 h2 e
  rw [pP_n h1]
  rcases h with h | h
  · exact ⟨c7, by omega, fun z => absurd h.1 z⟩
  · exact ⟨c7, h.1.2.1, fun z => ⟨(hN _ h.1.1 h.1.2.1).ex.mpr h.1.2.2, by show zR (N (zP (N n))) < zR (N n); omega⟩⟩
theorem az_kr (hN : ∀ n, 1 ≤ n → n ≤ 16 → RN (N n) F n) (hA : ∀ n, 1 ≤ n → n ≤ 16 → AN N n) : kr F (pP N) (fun n => zR (N n)) := by
  intro n h1 h2 h3
  have e := (hN n h1 h2).ex.mp h3
  obtain ⟨-, -, h, -⟩ := hA n h1 h2 e
  rw [pP_n h1]
  rcases h with h | h
  · exact Or.inl h
  · exact Or.inr ⟨⟨h.1.1, h.1.2.1, (hN _ h.1.1 h.1.2.1).ex.mpr h.1.2.2⟩, h.2⟩
theorem az_kp (hN : ∀ n, 1 ≤ n → n ≤ 16 → RN (N n) F n) (hA : ∀ n, 1 ≤ n → n ≤ 16 → AN N n) : kp F (fun n => zL (N n)) (fun n => zK (N n)) (fun n => zM (N n)) (pP N) (fun n => zR (N n)) := by
  intro n h1 h2 h3
  have e := (hN n h1 h2).ex.mp h3
  obtain ⟨-, -, -, ⟨k1, -⟩, ⟨k2, -⟩, -⟩ := hA n h1 h2 e
  refine ⟨fun z => ?_, fun z => ?_⟩
  · obtain ⟨⟨a1, a2, a3⟩, a4⟩ := k1 z
    exact ⟨⟨a1, a2, (hN _ a1 a2).ex.mpr a3⟩, (pP_n a1).trans a4, (hA _ a1 a2).rank a3 a4 h1⟩
  · obtain ⟨⟨a1, a2, a3⟩, a4, a5⟩ := k2 z
    exact ⟨⟨a1, a2, (hN _ a1 a2).ex.mpr a3⟩, (pP_n a1).trans a4, (hA _ a1 a2).rank a3 a4 h1, a5⟩
theorem az_kd (hN : ∀ n, 1 ≤ n → n ≤ 16 → RN (N n) F n) (hA : ∀ n, 1 ≤ n → n ≤ 16 → AN N n) : kd F (fun n => zL (N n)) (fun n => zK (N n)) (fun n => zM (N n)) (fun n => zV (N n)) (fun n => zR (N n)) := by
  intro n h1 h2 h3
  have e := (hN n h1 h2).ex.mp h3
  have hr := kr_15 (az_kr hN hA) h1 h2 h3
  obtain ⟨k1, k2⟩ := az_kp hN hA n h1 h2 h3
  obtain ⟨⟨-, c4, c5, c6, -, -, -, c10⟩, -, -⟩ := (hN n h1 h2).2 e
  obtain ⟨-, l8, -, -, -, -, v2, -⟩ := hA n h1 h2 e
  refine ⟨⟨c4, l8, hr⟩, fun z => ⟨c10 z, (v2 z).1⟩, fun z => ?_, fun z => ?_⟩
  · obtain ⟨a, -, b⟩ := k1 z
    exact ⟨c5, a, by show zR (N n) < zR (N (zK (N n))); have : zR (N (zK (N n))) = zR (N n) + 1 := b; omega⟩
  · obtain ⟨a, -, b, -⟩ := k2 z
    exact ⟨c6, a, by show zR (N n) < zR (N (zM (N n))); have : zR (N (zM (N n))) = zR (N n) + 1 := b; omega⟩
theorem az_len (hN : ∀ n, 1 ≤ n → n ≤ 16 → RN (N n) F n) (hA : ∀ n, 1 ≤ n → n ≤ 16 → AN N n) (h : F 2 1 ≠ 0) : (cd (fun n => zL (N n)) (fun n => zK (N n)) (fun n => zM (N n)) (fun n => zV (N n)) 16 1 0).length ≤ 32 := cd_32 (az_kp hN hA) (by omega) (by omega) h
theorem az_cw (hN : ∀ n, 1 ≤ n → n ≤ 16 → RN (N n) F n) (hA : ∀ n, 1 ≤ n → n ≤ 16 → AN N n) (h : F 2 1 ≠ 0) : cw F (pgN N) (fun n => zG (N n)) := by
  refine pgm_cw (az_kp hN hA) h (fun n h1 h2 h3 h4 => ?_) (fun n h1 h2 h3 h4 => ?_)
  · have e := (hN n h1 h2).ex.mp h3
    obtain ⟨-, -, -, -, -, -, v2, -⟩ := hA n h1 h2 e
    exact (v2 h4).1
  · have e := (hN n h1 h2).ex.mp h3
    obtain ⟨-, -, -, -, -, -, v2, v4, -⟩ := hA n h1 h2 e
    refine ⟨((hN n h1 h2).2 e).2.2 h4, ?_⟩
    rcases h4 with z | z
    · exact ⟨false, (v2 z).2.1 []⟩
    · exact ⟨true, (v4 z).1 []⟩
theorem az_ct (hN : ∀ n, 1 ≤ n → n ≤ 16 → RN (N n) F n) : ∀ i, i ≤ 16 → ct F i = ctN N i := by
  intro i
  induction i with
  | zero => intro _; rfl
  | succ i ih =>
    intro hi
    show ct F i + (if F 2 (i + 1) = 0 then 0 else 1) = ctN N i + (if zE (N (i + 1)) = true then 1 else 0)
    rw [ih (by omega)]
    by_cases hx : zE (N (i + 1)) = true
    · rw [if_pos hx, if_neg ((hN (i + 1) (by omega) hi).ex.mpr hx)]
    · rw [if_neg hx, if_pos ((hN (i + 1) (by omega) hi).no.mpr hx)]
theorem az_oo (hN : ∀ n, 1 ≤ n → n ≤ 16 → RN (N n) F n) (hA : ∀ n, 1 ≤ n → n ≤ 16 → AN N n) {n : Nat} (h1 : 1 ≤ n) (h2 : n ≤ 16) (e : zE (N n) = true) : oo F n = ooN (N n) := by
  obtain ⟨⟨-, c4, -, -, -, c8, c9, -⟩, -, -⟩ := (hN n h1 h2).2 e
  obtain ⟨-, l8, -⟩ := hA n h1 h2 e
  unfold oo ooN
  rw [c4, c9, c8]
  by_cases hl : zL (N n) = 0
  · rw [if_pos hl, if_pos (by rw [hl]; exact nI_0)]
  · rw [if_neg hl, if_neg (nI_ne0 (by omega) (by omega))]
    by_cases ho : zO (N n) = true
    · rw [if_pos ho, if_pos ho, if_neg (by decide)]
    · rw [if_neg ho, if_neg ho, if_pos rfl]
theorem az_os (hN : ∀ n, 1 ≤ n → n ≤ 16 → RN (N n) F n) (hA : ∀ n, 1 ≤ n → n ≤ 16 → AN N n) : ∀ i, i ≤ 16 → os F i = osN N i := by
  intro i
  induction i with
  | zero => intro _; rfl
  | succ i ih =>
    intro hi
    show os F i + (if F 2 (i + 1) = 0 then 0 else oo F (i + 1)) = osN N i + (if zE (N (i + 1)) = true then ooN (N (i + 1)) else 0)
    rw [ih (by omega)]
    by_cases hx : zE (N (i + 1)) = true
    · rw [if_pos hx, if_neg ((hN (i + 1) (by omega) hi).ex.mpr hx), az_oo hN hA (by omega) hi hx]
    · rw [if_neg hx, if_pos ((hN (i + 1) (by omega) hi).no.mpr hx)]
theorem az_fs (hN : ∀ n, 1 ≤ n → n ≤ 16 → RN (N n) F n) (hA : ∀ n, 1 ≤ n → n ≤ 16 → AN N n) : ∀ r i, 1 ≤ i → i + r = 17 → fs F r i = fsN N r i := by
  intro r
  induction r with
  | zero => intro i _ _; rfl
  | succ r ih =>
    intro i hi hr
    show (if F 2 i ≠ 0 ∧ 0 < oo F i then nI i else fs F r (i + 1)) = if zE (N i) = true ∧ 0 < ooN (N i) then nI i else fsN N r (i + 1)
    rw [ih (i + 1) (by omega) (by omega)]
    by_cases hx : zE (N i) = true
    · rw [az_oo hN hA hi (by omega) hx]
      have hz := (hN i hi (by omega)).ex.mpr hx
      by_cases ho : 0 < ooN (N i)
      · rw [if_pos ⟨hz, ho⟩, if_pos ⟨hx, ho⟩]
      · rw [if_neg (fun z => ho z.2), if_neg (fun z => ho z.2)]
    · rw [if_neg (fun z => z.1 ((hN i hi (by omega)).no.mpr hx)), if_neg (fun z => hx z.1)]
theorem az_isp (hN : ∀ n, 1 ≤ n → n ≤ 16 → RN (N n) F n) (hA : ∀ n, 1 ≤ n → n ≤ 16 → AN N n) : isp F ↔ ispN N := by
  unfold isp ispN
  rw [(hN 1 (by omega) (by omega)).ex, az_os hN hA 16 (by omega)]
/-- above a node that is there are such, or none -/
theorem az_an (hA : ∀ n, 1 ≤ n → n ≤ 16 → AN N n) : ∀ (k n : Nat), (n = 0 ∨ (1 ≤ n ∧ n ≤ 16 ∧ zE (N n) = true)) → (an (pP N) k n = 0 ∨ (1 ≤ an (pP N) k n ∧ an (pP N) k n ≤ 16 ∧ zE (N (an (pP N) k n)) = true)) := by
  intro k
  induction k with
  | zero => intro n h; exact h
  | succ k ih =>
    intro n h
    show an (pP N) k (pP N n) = 0 ∨ _
    refine ih (pP N n) ?_
    rcases h with h | h
    · left; rw [h]; rfl
    · obtain ⟨-, -, h3, -⟩ := hA n h.1 h.2.1 h.2.2
      rw [pP_n h.1]
      rcases h3 with h3 | h3
      · exact Or.inl h3.1
      · exact Or.inr h3.1
theorem az_il (hN : ∀ n, 1 ≤ n → n ≤ 16 → RN (N n) F n) (hA : ∀ n, 1 ≤ n → n ≤ 16 → AN N n) {n : Nat} (h : n = 0 ∨ (1 ≤ n ∧ n ≤ 16 ∧ zE (N n) = true)) : il F (pP N) n ↔ ilN N n := by
  have key : ∀ k, 1 ≤ an (pP N) k n → (F 4 (an (pP N) k n) = 5 ↔ zL (N (an (pP N) k n)) = 5) := by
    intro k hk
    rcases az_an hA k n h with z | ⟨z1, z2, z3⟩
    · omega
    · obtain ⟨⟨-, c4, -⟩, -, -⟩ := (hN _ z1 z2).2 z3
      obtain ⟨-, l8, -⟩ := hA _ z1 z2 z3
      rw [c4]
      exact nI_eq (b := 5) (by omega) (by omega)
  constructor
  · rintro ⟨k, h1, h2⟩; exact ⟨k, h1, (key k h1).mp h2⟩
  · rintro ⟨k, h1, h2⟩; exact ⟨k, h1, (key k h1).mpr h2⟩
theorem az_up (hA : ∀ n, 1 ≤ n → n ≤ 16 → AN N n) {n : Nat} (h1 : 1 ≤ n) (h2 : n ≤ 16) (h3 : zE (N n) = true) : pP N n = 0 ∨ (1 ≤ pP N n ∧ pP N n ≤ 16 ∧ zE (N (pP N n)) = true) := az_an hA 1 n (Or.inr ⟨h1, h2, h3⟩)
theorem az_pw (hN : ∀ n, 1 ≤ n → n ≤ 16 → RN (N n) F n) {q k : Nat} (h1 : 1 ≤ k) (h2 : k ≤ 16) : pw F (pP N) q k ↔ pwN N q k := by
  unfold pw pwN
  rw [(hN k h1 h2).ex]
theorem az_pn (hN : ∀ n, 1 ≤ n → n ≤ 16 → RN (N n) F n) {q : Nat} : ∀ i, i ≤ 16 → pn F (pP N) q i = pnN N q i := by
  intro i
  induction i with
  | zero => intro _; rfl
  | succ i ih =>
    intro hi
    show pn F (pP N) q i + _ = pnN N q i + _
    rw [ih (by omega)]
    have hp := az_pw (q := q) hN (k := i + 1) (by omega) hi
    by_cases hx : pwN N q (i + 1)
    · rw [ch_pos hx, if_pos (hp.mpr hx)]
    · rw [ch_neg hx, if_neg (fun z => hx (hp.mp z))]
theorem fr_sub {v f : Int32} (h0 : 0 ≤ f) (h7 : f ≤ 7) (h : v &&& (f ^^^ -1) = 0) : 0 ≤ v ∧ v ≤ 7 := by
  obtain ⟨k, hk, rfl⟩ := nI_of2 (n := 7) (M := 7) rfl (Int32.not_lt.mpr h0) h7
  have hb : v.toBitVec.toNat < 2 ^ 3 := by
    refine Nat.lt_pow_two_of_testBit _ (fun i hi => ?_)
    by_cases hi2 : i < 32
    · have e : (v.toBitVec &&& ((nI k).toBitVec ^^^ (-1 : Int32).toBitVec)) = 0#32 := congrArg Int32.toBitVec h
      have e3 : (-1 : Int32).toBitVec = BitVec.allOnes 32 := by decide
      have e4 : (nI k).toBitVec.getLsbD i = false := by
        have : (nI k).toBitVec.toNat = k := by
          show (BitVec.ofNat 32 k).toNat = k
          rw [BitVec.toNat_ofNat]; omega
        unfold BitVec.getLsbD
        rw [this]
        exact Nat.testBit_lt_two_pow (Nat.lt_of_lt_of_le (show k < 2 ^ 3 by omega) (Nat.pow_le_pow_right (by omega) hi))
      have e2 := congrArg (fun z => BitVec.getLsbD z i) e
      simp only [BitVec.getLsbD_and, BitVec.getLsbD_xor, e3, e4, BitVec.getLsbD_allOnes, hi2, decide_true, Bool.false_xor, Bool.and_true, BitVec.getLsbD_zero] at e2
      exact e2
    · exact Nat.testBit_lt_two_pow (Nat.lt_of_lt_of_le v.toBitVec.isLt (Nat.pow_le_pow_right (by omega) (by omega)))
  have hv : v = nI v.toBitVec.toNat := by
    apply Int32.toBitVec_inj.mp
    show v.toBitVec = BitVec.ofNat 32 v.toBitVec.toNat
    simp
  rw [hv]
  exact ⟨nI_pos' (by omega), nI_le (b := 7) (by omega) (by omega)⟩
theorem az_sd (hN : ∀ n, 1 ≤ n → n ≤ 16 → RN (N n) F n) (hA : ∀ n, 1 ≤ n → n ≤ 16 → AN N n) {f0 f1 e : List Int32} {n w : Nat} {v : Int32} (h1 : 1 ≤ n) (h2 : n ≤ 16) (h3 : zE (N n) = true) : sd F (pP N) f0 f1 e n w v ↔ sdN N f0 f1 e n w v := by
  obtain ⟨⟨c3, -⟩, -, -⟩ := (hN n h1 h2).2 h3
  obtain ⟨⟨l0, l7⟩, -⟩ := hA n h1 h2 h3
  unfold sd sdN
  rw [c3, az_il hN hA (az_up hA h1 h2 h3)]
  constructor
  · rintro ⟨a, b, c, g⟩; exact ⟨a, b, c, fun z => (g z).2⟩
  · rintro ⟨a, b, c, g⟩; exact ⟨a, b, c, fun z => ⟨fr_sub l0 l7 (g z), g z⟩⟩
/-- the least free number -/
theorem lfN_lf : ∀ (k i : Nat), ∀ n, i ≤ n → n < i + k → ¬ zE (N n) = true → (∀ j, i ≤ j → j < n → zE (N j) = true) → lfN N k i = n := by
  intro k
  induction k with
  | zero => intro i n h1 h2; omega
  | succ k ih =>
    intro i n h1 h2 h3 h4
    show (if zE (N i) = true then lfN N k (i + 1) else i) = n
    by_cases hi : i = n
    · subst hi; rw [if_neg h3]
    · rw [if_pos (h4 i (Nat.le_refl _) (by omega))]
      exact ih (i + 1) n (by omega) (by omega) h3 (fun j hj hn => h4 j (by omega) hn)
theorem az_lf (hN : ∀ n, 1 ≤ n → n ≤ 16 → RN (N n) F n) {n : Nat} (h : lf F n) : lfN N 16 1 = n := by
  obtain ⟨h1, h2, h3, h4⟩ := h
  exact lfN_lf 16 1 n h1 (by omega) ((hN n h1 h2).no.mp h3) (fun j j1 j2 => (hN j j1 (by omega)).ex.mp (h4 j j1 j2))
end AK
